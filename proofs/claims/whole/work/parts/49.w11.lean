/-! ===== the bytecode of these methods, walked (by program): X11_longest X3_longestRun X3_firstOfLongest X3_runFrom X11_game X3_winningPlace X3_winningPlaceIn X12_finds X12_firstTo X12_longest X12_game X11_propsWanted X3_fewestProps X3_areSafe X12_propsWanted X11_bombs X3_bombedWaysLeaving X12_bombs X12_partOf X11_felled X3_fewestTakings X3_spreadTakings X12_felled ===== -/
theorem kX11_longest_0 : zD cX11_longest 0 1 (.iload_n 1) 1 := by decide +kernel
theorem kX11_longest_1 : zD cX11_longest 1 4 (.invokestatic 150) 3 := by decide +kernel
theorem kX11_longest_4 : zB cX11_longest 4 7 9 (.ifCond .ne 5) 5 := by decide +kernel
theorem kX11_longest_7 : zD cX11_longest 7 8 (.iconst (-1)) 1 := by decide +kernel
theorem kX11_longest_8 : zD cX11_longest 8 9 (.ireturn) 1 := by decide +kernel
theorem kX11_longest_9 : zD cX11_longest 9 10 (.iload_n 1) 1 := by decide +kernel
theorem kX11_longest_10 : zB cX11_longest 10 13 23 (.ifCond .ne 13) 13 := by decide +kernel
theorem kX11_longest_13 : zD cX11_longest 13 14 (.aload_n 0) 1 := by decide +kernel
theorem kX11_longest_14 : zD cX11_longest 14 17 (.getfield 40) 3 := by decide +kernel
theorem kX11_longest_17 : zD cX11_longest 17 20 (.invokevirtual 176) 3 := by decide +kernel
theorem kX11_longest_20 : zB cX11_longest 20 23 30 (.goto 10) 10 := by decide +kernel
theorem kX11_longest_23 : zD cX11_longest 23 24 (.aload_n 0) 1 := by decide +kernel
theorem kX11_longest_24 : zD cX11_longest 24 27 (.getfield 40) 3 := by decide +kernel
theorem kX11_longest_27 : zD cX11_longest 27 30 (.invokevirtual 179) 3 := by decide +kernel
theorem kX11_longest_30 : zD cX11_longest 30 31 (.ireturn) 1 := by decide +kernel
set_option maxRecDepth 10000 in
theorem wX11_longest_0 {G : ZG} {d : Nat} {h : ZH} {Q : Option ZV → ZH → Prop} {x1 : Int32} 
  (H : ((0 ≤ x1 ∧ x1 ≤ 1) → (¬ x1 = 0 → zC G (d + 7) mX3_firstOfLongest [zr 1 0] h (fun r2 h1 => ∃ y3 : Int32, r2 = some (zi y3) ∧ Q (some (zi y3)) h1)) ∧ (x1 = 0 → zC G (d + 7) mX3_longestRun [zr 1 0] h (fun r5 h4 => ∃ y6 : Int32, r5 = some (zi y6) ∧ Q (some (zi y6)) h4))) ∧ (¬ (0 ≤ x1 ∧ x1 ≤ 1) → Q (some (zi (-1))) h)) :
  zT G (d + 8) mX11_longest 0 [zr 0 0, zi x1] [] h Q := by
  refine zt_iload_n kX11_longest_0 rfl ?_
  refine zt_cS (as := [zi x1]) kX11_longest_1 sRX11_150 rfl (by simp) rfl (sX11_isEither _  ) (fun r h0 hq => ?_)
  obtain ⟨rfl, hh⟩ := hq
  replace hh := hh.symm
  subst hh
  refine zt_ifb_ne kX11_longest_4 (fun c => ?_) (fun c => ?_)
  · replace H := H.1 c
    refine zt_iload_n kX11_longest_9 rfl ?_
    refine zt_if_ne kX11_longest_10 (fun c => ?_) (fun c => ?_)
    · replace H := H.1 c
      refine zt_aload_n kX11_longest_23 rfl ?_
      refine zt_get (v := zr 1 0) kX11_longest_24 fRX11_40 rfl (by decide) rfl ?_
      refine zt_cV (as := []) kX11_longest_27 sRX11_179 rfl (by decide) rfl (by simp) rfl H (fun r2 h1 H => ?_)
      obtain ⟨y3, rfl, H⟩ := H
      exact zt_iret kX11_longest_30 rfl H
    · replace H := H.2 c
      refine zt_aload_n kX11_longest_13 rfl ?_
      refine zt_get (v := zr 1 0) kX11_longest_14 fRX11_40 rfl (by decide) rfl ?_
      refine zt_cV (as := []) kX11_longest_17 sRX11_176 rfl (by decide) rfl (by simp) rfl H (fun r5 h4 H => ?_)
      obtain ⟨y6, rfl, H⟩ := H
      refine zt_goto kX11_longest_20 ?_
      exact zt_iret kX11_longest_30 rfl H
  · replace H := H.2 c
    refine zt_iconst (v := (-1)) kX11_longest_7 rfl ?_
    exact zt_iret kX11_longest_8 rfl H

theorem kX3_longestRun_0 : zD cX3_longestRun 0 1 (.aload_n 0) 1 := by decide +kernel
theorem kX3_longestRun_1 : zD cX3_longestRun 1 4 (.getfield 22) 3 := by decide +kernel
theorem kX3_longestRun_4 : zD cX3_longestRun 4 5 (.iconst (-1)) 1 := by decide +kernel
theorem kX3_longestRun_5 : zD cX3_longestRun 5 8 (.invokestatic 39) 3 := by decide +kernel
theorem kX3_longestRun_8 : zD cX3_longestRun 8 9 (.aload_n 0) 1 := by decide +kernel
theorem kX3_longestRun_9 : zD cX3_longestRun 9 10 (.aload_n 0) 1 := by decide +kernel
theorem kX3_longestRun_10 : zD cX3_longestRun 10 13 (.getfield 12) 3 := by decide +kernel
theorem kX3_longestRun_13 : zD cX3_longestRun 13 16 (.getfield 49) 3 := by decide +kernel
theorem kX3_longestRun_16 : zD cX3_longestRun 16 17 (.iconst 0) 1 := by decide +kernel
theorem kX3_longestRun_17 : zD cX3_longestRun 17 20 (.invokevirtual 75) 3 := by decide +kernel
theorem kX3_longestRun_20 : zD cX3_longestRun 20 21 (.ireturn) 1 := by decide +kernel
set_option maxRecDepth 10000 in
theorem wX3_longestRun_0 {G : ZG} {d : Nat} {h : ZH} {Q : Option ZV → ZH → Prop}  
  (H : zC G (d + 6) mJ7_fill_53178 [zr 18 0, zi (-1)] h (fun r2 h1 => r2 = none ∧ zC G (d + 6) mX3_runFrom [zr 1 0, zi (h1.1 2 0 6), zi 0] h1 (fun r4 h3 => ∃ y5 : Int32, r4 = some (zi y5) ∧ Q (some (zi y5)) h3))) :
  zT G (d + 7) mX3_longestRun 0 [zr 1 0] [] h Q := by
  refine zt_aload_n kX3_longestRun_0 rfl ?_
  refine zt_get (v := zr 18 0) kX3_longestRun_1 fRX3_22 rfl (by decide) rfl ?_
  refine zt_iconst (v := (-1)) kX3_longestRun_4 rfl ?_
  refine zt_cS (as := [zr 18 0, zi (-1)]) kX3_longestRun_5 sRX3_39 rfl (by simp) rfl H (fun r2 h1 H => ?_)
  obtain ⟨rfl, H⟩ := H
  refine zt_aload_n kX3_longestRun_8 rfl ?_
  refine zt_aload_n kX3_longestRun_9 rfl ?_
  refine zt_get (v := zr 2 0) kX3_longestRun_10 fRX3_12 rfl (by decide) rfl ?_
  refine zt_get (v := zi (h1.1 2 0 6)) kX3_longestRun_13 fRX3_49 rfl (by decide) rfl ?_
  refine zt_iconst (v := 0) kX3_longestRun_16 rfl ?_
  refine zt_cV (as := [zi (h1.1 2 0 6), zi 0]) kX3_longestRun_17 sRX3_75 rfl (by decide) rfl (by simp) rfl H (fun r4 h3 H => ?_)
  obtain ⟨y5, rfl, H⟩ := H
  exact zt_iret kX3_longestRun_20 rfl H

theorem kX3_firstOfLongest_0 : zD cX3_firstOfLongest 0 1 (.aload_n 0) 1 := by decide +kernel
theorem kX3_firstOfLongest_1 : zD cX3_firstOfLongest 1 4 (.getfield 22) 3 := by decide +kernel
theorem kX3_firstOfLongest_4 : zD cX3_firstOfLongest 4 5 (.iconst (-1)) 1 := by decide +kernel
theorem kX3_firstOfLongest_5 : zD cX3_firstOfLongest 5 8 (.invokestatic 39) 3 := by decide +kernel
theorem kX3_firstOfLongest_8 : zD cX3_firstOfLongest 8 9 (.aload_n 0) 1 := by decide +kernel
theorem kX3_firstOfLongest_9 : zD cX3_firstOfLongest 9 10 (.aload_n 0) 1 := by decide +kernel
theorem kX3_firstOfLongest_10 : zD cX3_firstOfLongest 10 13 (.getfield 12) 3 := by decide +kernel
theorem kX3_firstOfLongest_13 : zD cX3_firstOfLongest 13 16 (.getfield 49) 3 := by decide +kernel
theorem kX3_firstOfLongest_16 : zD cX3_firstOfLongest 16 17 (.iconst 0) 1 := by decide +kernel
theorem kX3_firstOfLongest_17 : zD cX3_firstOfLongest 17 20 (.invokevirtual 75) 3 := by decide +kernel
theorem kX3_firstOfLongest_20 : zD cX3_firstOfLongest 20 21 (.istore_n 1) 1 := by decide +kernel
theorem kX3_firstOfLongest_21 : zD cX3_firstOfLongest 21 22 (.iconst 0) 1 := by decide +kernel
theorem kX3_firstOfLongest_22 : zD cX3_firstOfLongest 22 23 (.istore_n 2) 1 := by decide +kernel
theorem kX3_firstOfLongest_23 : zD cX3_firstOfLongest 23 24 (.iload_n 2) 1 := by decide +kernel
theorem kX3_firstOfLongest_24 : zD cX3_firstOfLongest 24 26 (.bipush 12) 2 := by decide +kernel
theorem kX3_firstOfLongest_26 : zB cX3_firstOfLongest 26 29 79 (.if_icmp .ge 53) 53 := by decide +kernel
theorem kX3_firstOfLongest_29 : zD cX3_firstOfLongest 29 30 (.aload_n 0) 1 := by decide +kernel
theorem kX3_firstOfLongest_30 : zD cX3_firstOfLongest 30 31 (.aload_n 0) 1 := by decide +kernel
theorem kX3_firstOfLongest_31 : zD cX3_firstOfLongest 31 34 (.getfield 12) 3 := by decide +kernel
theorem kX3_firstOfLongest_34 : zD cX3_firstOfLongest 34 37 (.getfield 49) 3 := by decide +kernel
theorem kX3_firstOfLongest_37 : zD cX3_firstOfLongest 37 38 (.iload_n 2) 1 := by decide +kernel
theorem kX3_firstOfLongest_38 : zD cX3_firstOfLongest 38 41 (.invokevirtual 79) 3 := by decide +kernel
theorem kX3_firstOfLongest_41 : zB cX3_firstOfLongest 41 44 47 (.ifCond .ne 6) 6 := by decide +kernel
theorem kX3_firstOfLongest_44 : zB cX3_firstOfLongest 44 47 73 (.goto 29) 29 := by decide +kernel
theorem kX3_firstOfLongest_47 : zD cX3_firstOfLongest 47 48 (.iconst 1) 1 := by decide +kernel
theorem kX3_firstOfLongest_48 : zD cX3_firstOfLongest 48 49 (.aload_n 0) 1 := by decide +kernel
theorem kX3_firstOfLongest_49 : zD cX3_firstOfLongest 49 50 (.aload_n 0) 1 := by decide +kernel
theorem kX3_firstOfLongest_50 : zD cX3_firstOfLongest 50 53 (.getfield 12) 3 := by decide +kernel
theorem kX3_firstOfLongest_53 : zD cX3_firstOfLongest 53 56 (.getfield 49) 3 := by decide +kernel
theorem kX3_firstOfLongest_56 : zD cX3_firstOfLongest 56 57 (.iconst 1) 1 := by decide +kernel
theorem kX3_firstOfLongest_57 : zD cX3_firstOfLongest 57 58 (.iload_n 2) 1 := by decide +kernel
theorem kX3_firstOfLongest_58 : zD cX3_firstOfLongest 58 59 (.ishl) 1 := by decide +kernel
theorem kX3_firstOfLongest_59 : zD cX3_firstOfLongest 59 60 (.iconst (-1)) 1 := by decide +kernel
theorem kX3_firstOfLongest_60 : zD cX3_firstOfLongest 60 61 (.ixor) 1 := by decide +kernel
theorem kX3_firstOfLongest_61 : zD cX3_firstOfLongest 61 62 (.iand) 1 := by decide +kernel
theorem kX3_firstOfLongest_62 : zD cX3_firstOfLongest 62 63 (.iconst 1) 1 := by decide +kernel
theorem kX3_firstOfLongest_63 : zD cX3_firstOfLongest 63 66 (.invokevirtual 75) 3 := by decide +kernel
theorem kX3_firstOfLongest_66 : zD cX3_firstOfLongest 66 67 (.iadd) 1 := by decide +kernel
theorem kX3_firstOfLongest_67 : zD cX3_firstOfLongest 67 68 (.iload_n 1) 1 := by decide +kernel
theorem kX3_firstOfLongest_68 : zB cX3_firstOfLongest 68 71 73 (.if_icmp .ne 5) 5 := by decide +kernel
theorem kX3_firstOfLongest_71 : zD cX3_firstOfLongest 71 72 (.iload_n 2) 1 := by decide +kernel
theorem kX3_firstOfLongest_72 : zD cX3_firstOfLongest 72 73 (.ireturn) 1 := by decide +kernel
theorem kX3_firstOfLongest_73 : zD cX3_firstOfLongest 73 76 (.iinc 2 1) 3 := by decide +kernel
theorem kX3_firstOfLongest_76 : zB cX3_firstOfLongest 76 79 23 (.goto (-53)) (-53) := by decide +kernel
theorem kX3_firstOfLongest_79 : zD cX3_firstOfLongest 79 81 (.bipush (-4)) 2 := by decide +kernel
theorem kX3_firstOfLongest_81 : zD cX3_firstOfLongest 81 82 (.ireturn) 1 := by decide +kernel
set_option maxRecDepth 10000 in
theorem wX3_firstOfLongest_0 {G : ZG} {d : Nat} {h : ZH} {Q : Option ZV → ZH → Prop}  
  (H : zC G (d + 6) mJ7_fill_53178 [zr 18 0, zi (-1)] h (fun r2 h1 => r2 = none ∧ zC G (d + 6) mX3_runFrom [zr 1 0, zi (h1.1 2 0 6), zi 0] h1 (fun r4 h3 => ∃ y5 : Int32, r4 = some (zi y5) ∧ zT G (d + 7) mX3_firstOfLongest 23 [zr 1 0, zi y5, zi 0] [] h3 Q))) :
  zT G (d + 7) mX3_firstOfLongest 0 [zr 1 0, zu, zu] [] h Q := by
  refine zt_aload_n kX3_firstOfLongest_0 rfl ?_
  refine zt_get (v := zr 18 0) kX3_firstOfLongest_1 fRX3_22 rfl (by decide) rfl ?_
  refine zt_iconst (v := (-1)) kX3_firstOfLongest_4 rfl ?_
  refine zt_cS (as := [zr 18 0, zi (-1)]) kX3_firstOfLongest_5 sRX3_39 rfl (by simp) rfl H (fun r2 h1 H => ?_)
  obtain ⟨rfl, H⟩ := H
  refine zt_aload_n kX3_firstOfLongest_8 rfl ?_
  refine zt_aload_n kX3_firstOfLongest_9 rfl ?_
  refine zt_get (v := zr 2 0) kX3_firstOfLongest_10 fRX3_12 rfl (by decide) rfl ?_
  refine zt_get (v := zi (h1.1 2 0 6)) kX3_firstOfLongest_13 fRX3_49 rfl (by decide) rfl ?_
  refine zt_iconst (v := 0) kX3_firstOfLongest_16 rfl ?_
  refine zt_cV (as := [zi (h1.1 2 0 6), zi 0]) kX3_firstOfLongest_17 sRX3_75 rfl (by decide) rfl (by simp) rfl H (fun r4 h3 H => ?_)
  obtain ⟨y5, rfl, H⟩ := H
  refine zt_istore_n (L' := [zr 1 0, zi y5, zu]) kX3_firstOfLongest_20 (by decide) rfl ?_
  refine zt_iconst (v := 0) kX3_firstOfLongest_21 rfl ?_
  refine zt_istore_n (L' := [zr 1 0, zi y5, zi 0]) kX3_firstOfLongest_22 (by decide) rfl ?_
  exact H

set_option maxRecDepth 10000 in
theorem wX3_firstOfLongest_23 {G : ZG} {d : Nat} {h : ZH} {Q : Option ZV → ZH → Prop} {x1 : Int32} {x2 : Int32} 
  (H : (12 ≤ x2 → Q (some (zi (-4))) h) ∧ (¬ 12 ≤ x2 → zC G (d + 6) mX3_isSafeIn [zr 1 0, zi (h.1 2 0 6), zi x2] h (fun r2 h1 => ∃ y3 : Int32, r2 = some (zi y3) ∧ (¬ y3 = 0 → zC G (d + 6) mX3_runFrom [zr 1 0, zi ((h1.1 2 0 6) &&& (((1 : Int32) <<< (x2 &&& 31)) ^^^ (-1))), zi 1] h1 (fun r5 h4 => ∃ y6 : Int32, r5 = some (zi y6) ∧ (¬ (1 + y6) = x1 → zT G (d + 7) mX3_firstOfLongest 23 [zr 1 0, zi x1, zi (x2 + 1)] [] h4 Q) ∧ ((1 + y6) = x1 → Q (some (zi x2)) h4))) ∧ (y3 = 0 → zT G (d + 7) mX3_firstOfLongest 23 [zr 1 0, zi x1, zi (x2 + 1)] [] h1 Q)))) :
  zT G (d + 7) mX3_firstOfLongest 23 [zr 1 0, zi x1, zi x2] [] h Q := by
  refine zt_iload_n kX3_firstOfLongest_23 rfl ?_
  refine zt_bipush (v := 12) kX3_firstOfLongest_24 rfl ?_
  refine zt_icmp_ge kX3_firstOfLongest_26 (fun c => ?_) (fun c => ?_)
  · replace H := H.1 c
    refine zt_bipush (v := (-4)) kX3_firstOfLongest_79 rfl ?_
    exact zt_iret kX3_firstOfLongest_81 rfl H
  · replace H := H.2 c
    refine zt_aload_n kX3_firstOfLongest_29 rfl ?_
    refine zt_aload_n kX3_firstOfLongest_30 rfl ?_
    refine zt_get (v := zr 2 0) kX3_firstOfLongest_31 fRX3_12 rfl (by decide) rfl ?_
    refine zt_get (v := zi (h.1 2 0 6)) kX3_firstOfLongest_34 fRX3_49 rfl (by decide) rfl ?_
    refine zt_iload_n kX3_firstOfLongest_37 rfl ?_
    refine zt_cV (as := [zi (h.1 2 0 6), zi x2]) kX3_firstOfLongest_38 sRX3_79 rfl (by decide) rfl (by simp) rfl H (fun r2 h1 H => ?_)
    obtain ⟨y3, rfl, H⟩ := H
    refine zt_if_ne kX3_firstOfLongest_41 (fun c => ?_) (fun c => ?_)
    · replace H := H.1 c
      refine zt_iconst (v := 1) kX3_firstOfLongest_47 rfl ?_
      refine zt_aload_n kX3_firstOfLongest_48 rfl ?_
      refine zt_aload_n kX3_firstOfLongest_49 rfl ?_
      refine zt_get (v := zr 2 0) kX3_firstOfLongest_50 fRX3_12 rfl (by decide) rfl ?_
      refine zt_get (v := zi (h1.1 2 0 6)) kX3_firstOfLongest_53 fRX3_49 rfl (by decide) rfl ?_
      refine zt_iconst (v := 1) kX3_firstOfLongest_56 rfl ?_
      refine zt_iload_n kX3_firstOfLongest_57 rfl ?_
      refine zt_ishl kX3_firstOfLongest_58 ?_
      refine zt_iconst (v := (-1)) kX3_firstOfLongest_59 rfl ?_
      refine zt_ixor kX3_firstOfLongest_60 ?_
      refine zt_iand kX3_firstOfLongest_61 ?_
      refine zt_iconst (v := 1) kX3_firstOfLongest_62 rfl ?_
      refine zt_cV (as := [zi ((h1.1 2 0 6) &&& (((1 : Int32) <<< (x2 &&& 31)) ^^^ (-1))), zi 1]) kX3_firstOfLongest_63 sRX3_75 rfl (by decide) rfl (by simp) rfl H (fun r5 h4 H => ?_)
      obtain ⟨y6, rfl, H⟩ := H
      refine zt_iadd kX3_firstOfLongest_66 ?_
      refine zt_iload_n kX3_firstOfLongest_67 rfl ?_
      refine zt_icmp_ne kX3_firstOfLongest_68 (fun c => ?_) (fun c => ?_)
      · replace H := H.1 c
        refine zt_iinc (v := (x2 + 1)) (L' := [zr 1 0, zi x1, zi (x2 + 1)]) kX3_firstOfLongest_73 rfl rfl (by decide) rfl ?_
        refine zt_goto kX3_firstOfLongest_76 ?_
        exact H
      · replace H := H.2 c
        refine zt_iload_n kX3_firstOfLongest_71 rfl ?_
        exact zt_iret kX3_firstOfLongest_72 rfl H
    · replace H := H.2 c
      refine zt_goto kX3_firstOfLongest_44 ?_
      refine zt_iinc (v := (x2 + 1)) (L' := [zr 1 0, zi x1, zi (x2 + 1)]) kX3_firstOfLongest_73 rfl rfl (by decide) rfl ?_
      refine zt_goto kX3_firstOfLongest_76 ?_
      exact H

theorem kX3_runFrom_0 : zD cX3_runFrom 0 1 (.iload_n 2) 1 := by decide +kernel
theorem kX3_runFrom_1 : zD cX3_runFrom 1 3 (.bipush 12) 2 := by decide +kernel
theorem kX3_runFrom_3 : zB cX3_runFrom 3 6 8 (.if_icmp .le 5) 5 := by decide +kernel
theorem kX3_runFrom_6 : zD cX3_runFrom 6 7 (.iconst 0) 1 := by decide +kernel
theorem kX3_runFrom_7 : zD cX3_runFrom 7 8 (.ireturn) 1 := by decide +kernel
theorem kX3_runFrom_8 : zD cX3_runFrom 8 9 (.aload_n 0) 1 := by decide +kernel
theorem kX3_runFrom_9 : zD cX3_runFrom 9 12 (.getfield 22) 3 := by decide +kernel
theorem kX3_runFrom_12 : zD cX3_runFrom 12 13 (.iload_n 1) 1 := by decide +kernel
theorem kX3_runFrom_13 : zD cX3_runFrom 13 14 (.iaload) 1 := by decide +kernel
theorem kX3_runFrom_14 : zD cX3_runFrom 14 15 (.iconst (-1)) 1 := by decide +kernel
theorem kX3_runFrom_15 : zB cX3_runFrom 15 18 25 (.if_icmp .eq 10) 10 := by decide +kernel
theorem kX3_runFrom_18 : zD cX3_runFrom 18 19 (.aload_n 0) 1 := by decide +kernel
theorem kX3_runFrom_19 : zD cX3_runFrom 19 22 (.getfield 22) 3 := by decide +kernel
theorem kX3_runFrom_22 : zD cX3_runFrom 22 23 (.iload_n 1) 1 := by decide +kernel
theorem kX3_runFrom_23 : zD cX3_runFrom 23 24 (.iaload) 1 := by decide +kernel
theorem kX3_runFrom_24 : zD cX3_runFrom 24 25 (.ireturn) 1 := by decide +kernel
theorem kX3_runFrom_25 : zD cX3_runFrom 25 26 (.iconst 0) 1 := by decide +kernel
theorem kX3_runFrom_26 : zD cX3_runFrom 26 27 (.istore_n 3) 1 := by decide +kernel
theorem kX3_runFrom_27 : zD cX3_runFrom 27 28 (.iconst 0) 1 := by decide +kernel
theorem kX3_runFrom_28 : zD cX3_runFrom 28 30 (.istore 4) 2 := by decide +kernel
theorem kX3_runFrom_30 : zD cX3_runFrom 30 32 (.iload 4) 2 := by decide +kernel
theorem kX3_runFrom_32 : zD cX3_runFrom 32 34 (.bipush 12) 2 := by decide +kernel
theorem kX3_runFrom_34 : zB cX3_runFrom 34 37 75 (.if_icmp .ge 41) 41 := by decide +kernel
theorem kX3_runFrom_37 : zD cX3_runFrom 37 38 (.aload_n 0) 1 := by decide +kernel
theorem kX3_runFrom_38 : zD cX3_runFrom 38 39 (.iload_n 1) 1 := by decide +kernel
theorem kX3_runFrom_39 : zD cX3_runFrom 39 41 (.iload 4) 2 := by decide +kernel
theorem kX3_runFrom_41 : zD cX3_runFrom 41 44 (.invokevirtual 79) 3 := by decide +kernel
theorem kX3_runFrom_44 : zB cX3_runFrom 44 47 69 (.ifCond .eq 25) 25 := by decide +kernel
theorem kX3_runFrom_47 : zD cX3_runFrom 47 48 (.iload_n 3) 1 := by decide +kernel
theorem kX3_runFrom_48 : zD cX3_runFrom 48 49 (.iconst 1) 1 := by decide +kernel
theorem kX3_runFrom_49 : zD cX3_runFrom 49 50 (.aload_n 0) 1 := by decide +kernel
theorem kX3_runFrom_50 : zD cX3_runFrom 50 51 (.iload_n 1) 1 := by decide +kernel
theorem kX3_runFrom_51 : zD cX3_runFrom 51 52 (.iconst 1) 1 := by decide +kernel
theorem kX3_runFrom_52 : zD cX3_runFrom 52 54 (.iload 4) 2 := by decide +kernel
theorem kX3_runFrom_54 : zD cX3_runFrom 54 55 (.ishl) 1 := by decide +kernel
theorem kX3_runFrom_55 : zD cX3_runFrom 55 56 (.iconst (-1)) 1 := by decide +kernel
theorem kX3_runFrom_56 : zD cX3_runFrom 56 57 (.ixor) 1 := by decide +kernel
theorem kX3_runFrom_57 : zD cX3_runFrom 57 58 (.iand) 1 := by decide +kernel
theorem kX3_runFrom_58 : zD cX3_runFrom 58 59 (.iload_n 2) 1 := by decide +kernel
theorem kX3_runFrom_59 : zD cX3_runFrom 59 60 (.iconst 1) 1 := by decide +kernel
theorem kX3_runFrom_60 : zD cX3_runFrom 60 61 (.iadd) 1 := by decide +kernel
theorem kX3_runFrom_61 : zD cX3_runFrom 61 64 (.invokevirtual 75) 3 := by decide +kernel
theorem kX3_runFrom_64 : zD cX3_runFrom 64 65 (.iadd) 1 := by decide +kernel
theorem kX3_runFrom_65 : zD cX3_runFrom 65 68 (.invokestatic 83) 3 := by decide +kernel
theorem kX3_runFrom_68 : zD cX3_runFrom 68 69 (.istore_n 3) 1 := by decide +kernel
theorem kX3_runFrom_69 : zD cX3_runFrom 69 72 (.iinc 4 1) 3 := by decide +kernel
theorem kX3_runFrom_72 : zB cX3_runFrom 72 75 30 (.goto (-42)) (-42) := by decide +kernel
theorem kX3_runFrom_75 : zD cX3_runFrom 75 76 (.aload_n 0) 1 := by decide +kernel
theorem kX3_runFrom_76 : zD cX3_runFrom 76 79 (.getfield 22) 3 := by decide +kernel
theorem kX3_runFrom_79 : zD cX3_runFrom 79 80 (.iload_n 1) 1 := by decide +kernel
theorem kX3_runFrom_80 : zD cX3_runFrom 80 81 (.iload_n 3) 1 := by decide +kernel
theorem kX3_runFrom_81 : zD cX3_runFrom 81 82 (.iastore) 1 := by decide +kernel
theorem kX3_runFrom_82 : zD cX3_runFrom 82 83 (.iload_n 3) 1 := by decide +kernel
theorem kX3_runFrom_83 : zD cX3_runFrom 83 84 (.ireturn) 1 := by decide +kernel
set_option maxRecDepth 10000 in
theorem wX3_runFrom_0 {G : ZG} {d : Nat} {h : ZH} {Q : Option ZV → ZH → Prop} {x1 : Int32} {x2 : Int32} 
  (H : (x2 ≤ 12 → vp_in x1 4096 ∧ ((h.1 18 0 x1.toNatClampNeg) = (-1) → zT G (d + 6) mX3_runFrom 30 [zr 1 0, zi x1, zi x2, zi 0, zi 0] [] h Q) ∧ (¬ (h.1 18 0 x1.toNatClampNeg) = (-1) → vp_in x1 4096 ∧ Q (some (zi (h.1 18 0 x1.toNatClampNeg))) h)) ∧ (¬ x2 ≤ 12 → Q (some (zi 0)) h)) :
  zT G (d + 6) mX3_runFrom 0 [zr 1 0, zi x1, zi x2, zu, zu] [] h Q := by
  refine zt_iload_n kX3_runFrom_0 rfl ?_
  refine zt_bipush (v := 12) kX3_runFrom_1 rfl ?_
  refine zt_icmp_le kX3_runFrom_3 (fun c => ?_) (fun c => ?_)
  · replace H := H.1 c
    refine zt_aload_n kX3_runFrom_8 rfl ?_
    refine zt_get (v := zr 18 0) kX3_runFrom_9 fRX3_22 rfl (by decide) rfl ?_
    refine zt_iload_n kX3_runFrom_12 rfl ?_
    obtain ⟨hv, H⟩ := H
    refine zt_iald kX3_runFrom_13 rfl (by decide) hv ?_
    refine zt_iconst (v := (-1)) kX3_runFrom_14 rfl ?_
    refine zt_icmp_eq kX3_runFrom_15 (fun c => ?_) (fun c => ?_)
    · replace H := H.1 c
      refine zt_iconst (v := 0) kX3_runFrom_25 rfl ?_
      refine zt_istore_n (L' := [zr 1 0, zi x1, zi x2, zi 0, zu]) kX3_runFrom_26 (by decide) rfl ?_
      refine zt_iconst (v := 0) kX3_runFrom_27 rfl ?_
      refine zt_istore (L' := [zr 1 0, zi x1, zi x2, zi 0, zi 0]) kX3_runFrom_28 (by decide) rfl ?_
      exact H
    · replace H := H.2 c
      refine zt_aload_n kX3_runFrom_18 rfl ?_
      refine zt_get (v := zr 18 0) kX3_runFrom_19 fRX3_22 rfl (by decide) rfl ?_
      refine zt_iload_n kX3_runFrom_22 rfl ?_
      obtain ⟨hv, H⟩ := H
      refine zt_iald kX3_runFrom_23 rfl (by decide) hv ?_
      exact zt_iret kX3_runFrom_24 rfl H
  · replace H := H.2 c
    refine zt_iconst (v := 0) kX3_runFrom_6 rfl ?_
    exact zt_iret kX3_runFrom_7 rfl H

set_option maxRecDepth 10000 in
theorem wX3_runFrom_30 {G : ZG} {d : Nat} {h : ZH} {Q : Option ZV → ZH → Prop} {x1 : Int32} {x2 : Int32} {x3 : Int32} {x4 : Int32} 
  (H : (12 ≤ x4 → vp_in x1 4096 ∧ (∀ h1 : ZH, h1 = zs1 h 18 0 x1.toNatClampNeg x3 → Q (some (zi x3)) h1)) ∧ (¬ 12 ≤ x4 → zC G (d + 5) mX3_isSafeIn [zr 1 0, zi x1, zi x4] h (fun r3 h2 => ∃ y4 : Int32, r3 = some (zi y4) ∧ (y4 = 0 → zT G (d + 6) mX3_runFrom 30 [zr 1 0, zi x1, zi x2, zi x3, zi (x4 + 1)] [] h2 Q) ∧ (¬ y4 = 0 → zC G (d + 5) mX3_runFrom [zr 1 0, zi (x1 &&& (((1 : Int32) <<< (x4 &&& 31)) ^^^ (-1))), zi (x2 + 1)] h2 (fun r6 h5 => ∃ y7 : Int32, r6 = some (zi y7) ∧ zT G (d + 6) mX3_runFrom 30 [zr 1 0, zi x1, zi x2, zi (zmx x3 (1 + y7)), zi (x4 + 1)] [] h5 Q))))) :
  zT G (d + 6) mX3_runFrom 30 [zr 1 0, zi x1, zi x2, zi x3, zi x4] [] h Q := by
  refine zt_iload kX3_runFrom_30 rfl ?_
  refine zt_bipush (v := 12) kX3_runFrom_32 rfl ?_
  refine zt_icmp_ge kX3_runFrom_34 (fun c => ?_) (fun c => ?_)
  · replace H := H.1 c
    refine zt_aload_n kX3_runFrom_75 rfl ?_
    refine zt_get (v := zr 18 0) kX3_runFrom_76 fRX3_22 rfl (by decide) rfl ?_
    refine zt_iload_n kX3_runFrom_79 rfl ?_
    refine zt_iload_n kX3_runFrom_80 rfl ?_
    obtain ⟨hv, H⟩ := H
    refine zt_iast kX3_runFrom_81 rfl (by decide) hv ?_
    refine zt_heap (fun h1 eh1 => ?_)
    replace H := H h1 eh1
    refine zt_iload_n kX3_runFrom_82 rfl ?_
    exact zt_iret kX3_runFrom_83 rfl H
  · replace H := H.2 c
    refine zt_aload_n kX3_runFrom_37 rfl ?_
    refine zt_iload_n kX3_runFrom_38 rfl ?_
    refine zt_iload kX3_runFrom_39 rfl ?_
    refine zt_cV (as := [zi x1, zi x4]) kX3_runFrom_41 sRX3_79 rfl (by decide) rfl (by simp) rfl H (fun r3 h2 H => ?_)
    obtain ⟨y4, rfl, H⟩ := H
    refine zt_if_eq kX3_runFrom_44 (fun c => ?_) (fun c => ?_)
    · replace H := H.1 c
      refine zt_iinc (v := (x4 + 1)) (L' := [zr 1 0, zi x1, zi x2, zi x3, zi (x4 + 1)]) kX3_runFrom_69 rfl rfl (by decide) rfl ?_
      refine zt_goto kX3_runFrom_72 ?_
      exact H
    · replace H := H.2 c
      refine zt_iload_n kX3_runFrom_47 rfl ?_
      refine zt_iconst (v := 1) kX3_runFrom_48 rfl ?_
      refine zt_aload_n kX3_runFrom_49 rfl ?_
      refine zt_iload_n kX3_runFrom_50 rfl ?_
      refine zt_iconst (v := 1) kX3_runFrom_51 rfl ?_
      refine zt_iload kX3_runFrom_52 rfl ?_
      refine zt_ishl kX3_runFrom_54 ?_
      refine zt_iconst (v := (-1)) kX3_runFrom_55 rfl ?_
      refine zt_ixor kX3_runFrom_56 ?_
      refine zt_iand kX3_runFrom_57 ?_
      refine zt_iload_n kX3_runFrom_58 rfl ?_
      refine zt_iconst (v := 1) kX3_runFrom_59 rfl ?_
      refine zt_iadd kX3_runFrom_60 ?_
      refine zt_cV (as := [zi (x1 &&& (((1 : Int32) <<< (x4 &&& 31)) ^^^ (-1))), zi (x2 + 1)]) kX3_runFrom_61 sRX3_75 rfl (by decide) rfl (by simp) rfl H (fun r6 h5 H => ?_)
      obtain ⟨y7, rfl, H⟩ := H
      refine zt_iadd kX3_runFrom_64 ?_
      refine zt_mmax kX3_runFrom_65 qRX3_83 (by simp) ?_
      refine zt_istore_n (L' := [zr 1 0, zi x1, zi x2, zi (zmx x3 (1 + y7)), zi x4]) kX3_runFrom_68 (by decide) rfl ?_
      refine zt_iinc (v := (x4 + 1)) (L' := [zr 1 0, zi x1, zi x2, zi (zmx x3 (1 + y7)), zi (x4 + 1)]) kX3_runFrom_69 rfl rfl (by decide) rfl ?_
      refine zt_goto kX3_runFrom_72 ?_
      exact H

theorem kX11_game_0 : zD cX11_game 0 1 (.iload_n 1) 1 := by decide +kernel
theorem kX11_game_1 : zD cX11_game 1 4 (.invokestatic 150) 3 := by decide +kernel
theorem kX11_game_4 : zB cX11_game 4 7 9 (.ifCond .ne 5) 5 := by decide +kernel
theorem kX11_game_7 : zD cX11_game 7 8 (.iconst (-1)) 1 := by decide +kernel
theorem kX11_game_8 : zD cX11_game 8 9 (.ireturn) 1 := by decide +kernel
theorem kX11_game_9 : zD cX11_game 9 10 (.aload_n 0) 1 := by decide +kernel
theorem kX11_game_10 : zD cX11_game 10 13 (.getfield 40) 3 := by decide +kernel
theorem kX11_game_13 : zD cX11_game 13 16 (.invokevirtual 182) 3 := by decide +kernel
theorem kX11_game_16 : zD cX11_game 16 17 (.istore_n 2) 1 := by decide +kernel
theorem kX11_game_17 : zD cX11_game 17 18 (.iload_n 1) 1 := by decide +kernel
theorem kX11_game_18 : zD cX11_game 18 19 (.iconst 1) 1 := by decide +kernel
theorem kX11_game_19 : zB cX11_game 19 22 24 (.if_icmp .ne 5) 5 := by decide +kernel
theorem kX11_game_22 : zD cX11_game 22 23 (.iload_n 2) 1 := by decide +kernel
theorem kX11_game_23 : zD cX11_game 23 24 (.ireturn) 1 := by decide +kernel
theorem kX11_game_24 : zD cX11_game 24 25 (.iload_n 2) 1 := by decide +kernel
theorem kX11_game_25 : zD cX11_game 25 27 (.bipush (-4)) 2 := by decide +kernel
theorem kX11_game_27 : zB cX11_game 27 30 34 (.if_icmp .ne 7) 7 := by decide +kernel
theorem kX11_game_30 : zD cX11_game 30 31 (.iconst 0) 1 := by decide +kernel
theorem kX11_game_31 : zB cX11_game 31 34 35 (.goto 4) 4 := by decide +kernel
theorem kX11_game_34 : zD cX11_game 34 35 (.iconst 1) 1 := by decide +kernel
theorem kX11_game_35 : zD cX11_game 35 36 (.ireturn) 1 := by decide +kernel
set_option maxRecDepth 10000 in
theorem wX11_game_0 {G : ZG} {d : Nat} {h : ZH} {Q : Option ZV → ZH → Prop} {x1 : Int32} 
  (H : ((0 ≤ x1 ∧ x1 ≤ 1) → zC G (d + 7) mX3_winningPlace [zr 1 0] h (fun r2 h1 => ∃ y3 : Int32, r2 = some (zi y3) ∧ (¬ x1 = 1 → (¬ y3 = (-4) → Q (some (zi 1)) h1) ∧ (y3 = (-4) → Q (some (zi 0)) h1)) ∧ (x1 = 1 → Q (some (zi y3)) h1))) ∧ (¬ (0 ≤ x1 ∧ x1 ≤ 1) → Q (some (zi (-1))) h)) :
  zT G (d + 8) mX11_game 0 [zr 0 0, zi x1, zu] [] h Q := by
  refine zt_iload_n kX11_game_0 rfl ?_
  refine zt_cS (as := [zi x1]) kX11_game_1 sRX11_150 rfl (by simp) rfl (sX11_isEither _  ) (fun r h0 hq => ?_)
  obtain ⟨rfl, hh⟩ := hq
  replace hh := hh.symm
  subst hh
  refine zt_ifb_ne kX11_game_4 (fun c => ?_) (fun c => ?_)
  · replace H := H.1 c
    refine zt_aload_n kX11_game_9 rfl ?_
    refine zt_get (v := zr 1 0) kX11_game_10 fRX11_40 rfl (by decide) rfl ?_
    refine zt_cV (as := []) kX11_game_13 sRX11_182 rfl (by decide) rfl (by simp) rfl H (fun r2 h1 H => ?_)
    obtain ⟨y3, rfl, H⟩ := H
    refine zt_istore_n (L' := [zr 0 0, zi x1, zi y3]) kX11_game_16 (by decide) rfl ?_
    refine zt_iload_n kX11_game_17 rfl ?_
    refine zt_iconst (v := 1) kX11_game_18 rfl ?_
    refine zt_icmp_ne kX11_game_19 (fun c => ?_) (fun c => ?_)
    · replace H := H.1 c
      refine zt_iload_n kX11_game_24 rfl ?_
      refine zt_bipush (v := (-4)) kX11_game_25 rfl ?_
      refine zt_icmp_ne kX11_game_27 (fun c => ?_) (fun c => ?_)
      · replace H := H.1 c
        refine zt_iconst (v := 1) kX11_game_34 rfl ?_
        exact zt_iret kX11_game_35 rfl H
      · replace H := H.2 c
        refine zt_iconst (v := 0) kX11_game_30 rfl ?_
        refine zt_goto kX11_game_31 ?_
        exact zt_iret kX11_game_35 rfl H
    · replace H := H.2 c
      refine zt_iload_n kX11_game_22 rfl ?_
      exact zt_iret kX11_game_23 rfl H
  · replace H := H.2 c
    refine zt_iconst (v := (-1)) kX11_game_7 rfl ?_
    exact zt_iret kX11_game_8 rfl H

theorem kX3_winningPlace_0 : zD cX3_winningPlace 0 1 (.aload_n 0) 1 := by decide +kernel
theorem kX3_winningPlace_1 : zD cX3_winningPlace 1 4 (.getfield 22) 3 := by decide +kernel
theorem kX3_winningPlace_4 : zD cX3_winningPlace 4 5 (.iconst (-1)) 1 := by decide +kernel
theorem kX3_winningPlace_5 : zD cX3_winningPlace 5 8 (.invokestatic 39) 3 := by decide +kernel
theorem kX3_winningPlace_8 : zD cX3_winningPlace 8 9 (.aload_n 0) 1 := by decide +kernel
theorem kX3_winningPlace_9 : zD cX3_winningPlace 9 10 (.aload_n 0) 1 := by decide +kernel
theorem kX3_winningPlace_10 : zD cX3_winningPlace 10 13 (.getfield 12) 3 := by decide +kernel
theorem kX3_winningPlace_13 : zD cX3_winningPlace 13 16 (.getfield 49) 3 := by decide +kernel
theorem kX3_winningPlace_16 : zD cX3_winningPlace 16 17 (.iconst 0) 1 := by decide +kernel
theorem kX3_winningPlace_17 : zD cX3_winningPlace 17 20 (.invokevirtual 88) 3 := by decide +kernel
theorem kX3_winningPlace_20 : zD cX3_winningPlace 20 21 (.ireturn) 1 := by decide +kernel
set_option maxRecDepth 10000 in
theorem wX3_winningPlace_0 {G : ZG} {d : Nat} {h : ZH} {Q : Option ZV → ZH → Prop}  
  (H : zC G (d + 6) mJ7_fill_53178 [zr 18 0, zi (-1)] h (fun r2 h1 => r2 = none ∧ zC G (d + 6) mX3_winningPlaceIn [zr 1 0, zi (h1.1 2 0 6), zi 0] h1 (fun r4 h3 => ∃ y5 : Int32, r4 = some (zi y5) ∧ Q (some (zi y5)) h3))) :
  zT G (d + 7) mX3_winningPlace 0 [zr 1 0] [] h Q := by
  refine zt_aload_n kX3_winningPlace_0 rfl ?_
  refine zt_get (v := zr 18 0) kX3_winningPlace_1 fRX3_22 rfl (by decide) rfl ?_
  refine zt_iconst (v := (-1)) kX3_winningPlace_4 rfl ?_
  refine zt_cS (as := [zr 18 0, zi (-1)]) kX3_winningPlace_5 sRX3_39 rfl (by simp) rfl H (fun r2 h1 H => ?_)
  obtain ⟨rfl, H⟩ := H
  refine zt_aload_n kX3_winningPlace_8 rfl ?_
  refine zt_aload_n kX3_winningPlace_9 rfl ?_
  refine zt_get (v := zr 2 0) kX3_winningPlace_10 fRX3_12 rfl (by decide) rfl ?_
  refine zt_get (v := zi (h1.1 2 0 6)) kX3_winningPlace_13 fRX3_49 rfl (by decide) rfl ?_
  refine zt_iconst (v := 0) kX3_winningPlace_16 rfl ?_
  refine zt_cV (as := [zi (h1.1 2 0 6), zi 0]) kX3_winningPlace_17 sRX3_88 rfl (by decide) rfl (by simp) rfl H (fun r4 h3 H => ?_)
  obtain ⟨y5, rfl, H⟩ := H
  exact zt_iret kX3_winningPlace_20 rfl H

theorem kX3_winningPlaceIn_0 : zD cX3_winningPlaceIn 0 1 (.iload_n 2) 1 := by decide +kernel
theorem kX3_winningPlaceIn_1 : zD cX3_winningPlaceIn 1 3 (.bipush 12) 2 := by decide +kernel
theorem kX3_winningPlaceIn_3 : zB cX3_winningPlaceIn 3 6 9 (.if_icmp .le 6) 6 := by decide +kernel
theorem kX3_winningPlaceIn_6 : zD cX3_winningPlaceIn 6 8 (.bipush (-4)) 2 := by decide +kernel
theorem kX3_winningPlaceIn_8 : zD cX3_winningPlaceIn 8 9 (.ireturn) 1 := by decide +kernel
theorem kX3_winningPlaceIn_9 : zD cX3_winningPlaceIn 9 10 (.aload_n 0) 1 := by decide +kernel
theorem kX3_winningPlaceIn_10 : zD cX3_winningPlaceIn 10 13 (.getfield 22) 3 := by decide +kernel
theorem kX3_winningPlaceIn_13 : zD cX3_winningPlaceIn 13 14 (.iload_n 1) 1 := by decide +kernel
theorem kX3_winningPlaceIn_14 : zD cX3_winningPlaceIn 14 15 (.iaload) 1 := by decide +kernel
theorem kX3_winningPlaceIn_15 : zD cX3_winningPlaceIn 15 16 (.iconst (-1)) 1 := by decide +kernel
theorem kX3_winningPlaceIn_16 : zB cX3_winningPlaceIn 16 19 26 (.if_icmp .eq 10) 10 := by decide +kernel
theorem kX3_winningPlaceIn_19 : zD cX3_winningPlaceIn 19 20 (.aload_n 0) 1 := by decide +kernel
theorem kX3_winningPlaceIn_20 : zD cX3_winningPlaceIn 20 23 (.getfield 22) 3 := by decide +kernel
theorem kX3_winningPlaceIn_23 : zD cX3_winningPlaceIn 23 24 (.iload_n 1) 1 := by decide +kernel
theorem kX3_winningPlaceIn_24 : zD cX3_winningPlaceIn 24 25 (.iaload) 1 := by decide +kernel
theorem kX3_winningPlaceIn_25 : zD cX3_winningPlaceIn 25 26 (.ireturn) 1 := by decide +kernel
theorem kX3_winningPlaceIn_26 : zD cX3_winningPlaceIn 26 28 (.bipush (-4)) 2 := by decide +kernel
theorem kX3_winningPlaceIn_28 : zD cX3_winningPlaceIn 28 29 (.istore_n 3) 1 := by decide +kernel
theorem kX3_winningPlaceIn_29 : zD cX3_winningPlaceIn 29 30 (.iconst 0) 1 := by decide +kernel
theorem kX3_winningPlaceIn_30 : zD cX3_winningPlaceIn 30 32 (.istore 4) 2 := by decide +kernel
theorem kX3_winningPlaceIn_32 : zD cX3_winningPlaceIn 32 34 (.iload 4) 2 := by decide +kernel
theorem kX3_winningPlaceIn_34 : zD cX3_winningPlaceIn 34 36 (.bipush 12) 2 := by decide +kernel
theorem kX3_winningPlaceIn_36 : zB cX3_winningPlaceIn 36 39 87 (.if_icmp .ge 51) 51 := by decide +kernel
theorem kX3_winningPlaceIn_39 : zD cX3_winningPlaceIn 39 40 (.iload_n 3) 1 := by decide +kernel
theorem kX3_winningPlaceIn_40 : zD cX3_winningPlaceIn 40 42 (.bipush (-4)) 2 := by decide +kernel
theorem kX3_winningPlaceIn_42 : zB cX3_winningPlaceIn 42 45 87 (.if_icmp .ne 45) 45 := by decide +kernel
theorem kX3_winningPlaceIn_45 : zD cX3_winningPlaceIn 45 46 (.aload_n 0) 1 := by decide +kernel
theorem kX3_winningPlaceIn_46 : zD cX3_winningPlaceIn 46 47 (.iload_n 1) 1 := by decide +kernel
theorem kX3_winningPlaceIn_47 : zD cX3_winningPlaceIn 47 49 (.iload 4) 2 := by decide +kernel
theorem kX3_winningPlaceIn_49 : zD cX3_winningPlaceIn 49 52 (.invokevirtual 79) 3 := by decide +kernel
theorem kX3_winningPlaceIn_52 : zB cX3_winningPlaceIn 52 55 58 (.ifCond .ne 6) 6 := by decide +kernel
theorem kX3_winningPlaceIn_55 : zB cX3_winningPlaceIn 55 58 81 (.goto 26) 26 := by decide +kernel
theorem kX3_winningPlaceIn_58 : zD cX3_winningPlaceIn 58 59 (.aload_n 0) 1 := by decide +kernel
theorem kX3_winningPlaceIn_59 : zD cX3_winningPlaceIn 59 60 (.iload_n 1) 1 := by decide +kernel
theorem kX3_winningPlaceIn_60 : zD cX3_winningPlaceIn 60 61 (.iconst 1) 1 := by decide +kernel
theorem kX3_winningPlaceIn_61 : zD cX3_winningPlaceIn 61 63 (.iload 4) 2 := by decide +kernel
theorem kX3_winningPlaceIn_63 : zD cX3_winningPlaceIn 63 64 (.ishl) 1 := by decide +kernel
theorem kX3_winningPlaceIn_64 : zD cX3_winningPlaceIn 64 65 (.iconst (-1)) 1 := by decide +kernel
theorem kX3_winningPlaceIn_65 : zD cX3_winningPlaceIn 65 66 (.ixor) 1 := by decide +kernel
theorem kX3_winningPlaceIn_66 : zD cX3_winningPlaceIn 66 67 (.iand) 1 := by decide +kernel
theorem kX3_winningPlaceIn_67 : zD cX3_winningPlaceIn 67 68 (.iload_n 2) 1 := by decide +kernel
theorem kX3_winningPlaceIn_68 : zD cX3_winningPlaceIn 68 69 (.iconst 1) 1 := by decide +kernel
theorem kX3_winningPlaceIn_69 : zD cX3_winningPlaceIn 69 70 (.iadd) 1 := by decide +kernel
theorem kX3_winningPlaceIn_70 : zD cX3_winningPlaceIn 70 73 (.invokevirtual 88) 3 := by decide +kernel
theorem kX3_winningPlaceIn_73 : zD cX3_winningPlaceIn 73 75 (.bipush (-4)) 2 := by decide +kernel
theorem kX3_winningPlaceIn_75 : zB cX3_winningPlaceIn 75 78 81 (.if_icmp .ne 6) 6 := by decide +kernel
theorem kX3_winningPlaceIn_78 : zD cX3_winningPlaceIn 78 80 (.iload 4) 2 := by decide +kernel
theorem kX3_winningPlaceIn_80 : zD cX3_winningPlaceIn 80 81 (.istore_n 3) 1 := by decide +kernel
theorem kX3_winningPlaceIn_81 : zD cX3_winningPlaceIn 81 84 (.iinc 4 1) 3 := by decide +kernel
theorem kX3_winningPlaceIn_84 : zB cX3_winningPlaceIn 84 87 32 (.goto (-52)) (-52) := by decide +kernel
theorem kX3_winningPlaceIn_87 : zD cX3_winningPlaceIn 87 88 (.aload_n 0) 1 := by decide +kernel
theorem kX3_winningPlaceIn_88 : zD cX3_winningPlaceIn 88 91 (.getfield 22) 3 := by decide +kernel
theorem kX3_winningPlaceIn_91 : zD cX3_winningPlaceIn 91 92 (.iload_n 1) 1 := by decide +kernel
theorem kX3_winningPlaceIn_92 : zD cX3_winningPlaceIn 92 93 (.iload_n 3) 1 := by decide +kernel
theorem kX3_winningPlaceIn_93 : zD cX3_winningPlaceIn 93 94 (.iastore) 1 := by decide +kernel
theorem kX3_winningPlaceIn_94 : zD cX3_winningPlaceIn 94 95 (.iload_n 3) 1 := by decide +kernel
theorem kX3_winningPlaceIn_95 : zD cX3_winningPlaceIn 95 96 (.ireturn) 1 := by decide +kernel
set_option maxRecDepth 10000 in
theorem wX3_winningPlaceIn_0 {G : ZG} {d : Nat} {h : ZH} {Q : Option ZV → ZH → Prop} {x1 : Int32} {x2 : Int32} 
  (H : (x2 ≤ 12 → vp_in x1 4096 ∧ ((h.1 18 0 x1.toNatClampNeg) = (-1) → zT G (d + 6) mX3_winningPlaceIn 32 [zr 1 0, zi x1, zi x2, zi (-4), zi 0] [] h Q) ∧ (¬ (h.1 18 0 x1.toNatClampNeg) = (-1) → vp_in x1 4096 ∧ Q (some (zi (h.1 18 0 x1.toNatClampNeg))) h)) ∧ (¬ x2 ≤ 12 → Q (some (zi (-4))) h)) :
  zT G (d + 6) mX3_winningPlaceIn 0 [zr 1 0, zi x1, zi x2, zu, zu] [] h Q := by
  refine zt_iload_n kX3_winningPlaceIn_0 rfl ?_
  refine zt_bipush (v := 12) kX3_winningPlaceIn_1 rfl ?_
  refine zt_icmp_le kX3_winningPlaceIn_3 (fun c => ?_) (fun c => ?_)
  · replace H := H.1 c
    refine zt_aload_n kX3_winningPlaceIn_9 rfl ?_
    refine zt_get (v := zr 18 0) kX3_winningPlaceIn_10 fRX3_22 rfl (by decide) rfl ?_
    refine zt_iload_n kX3_winningPlaceIn_13 rfl ?_
    obtain ⟨hv, H⟩ := H
    refine zt_iald kX3_winningPlaceIn_14 rfl (by decide) hv ?_
    refine zt_iconst (v := (-1)) kX3_winningPlaceIn_15 rfl ?_
    refine zt_icmp_eq kX3_winningPlaceIn_16 (fun c => ?_) (fun c => ?_)
    · replace H := H.1 c
      refine zt_bipush (v := (-4)) kX3_winningPlaceIn_26 rfl ?_
      refine zt_istore_n (L' := [zr 1 0, zi x1, zi x2, zi (-4), zu]) kX3_winningPlaceIn_28 (by decide) rfl ?_
      refine zt_iconst (v := 0) kX3_winningPlaceIn_29 rfl ?_
      refine zt_istore (L' := [zr 1 0, zi x1, zi x2, zi (-4), zi 0]) kX3_winningPlaceIn_30 (by decide) rfl ?_
      exact H
    · replace H := H.2 c
      refine zt_aload_n kX3_winningPlaceIn_19 rfl ?_
      refine zt_get (v := zr 18 0) kX3_winningPlaceIn_20 fRX3_22 rfl (by decide) rfl ?_
      refine zt_iload_n kX3_winningPlaceIn_23 rfl ?_
      obtain ⟨hv, H⟩ := H
      refine zt_iald kX3_winningPlaceIn_24 rfl (by decide) hv ?_
      exact zt_iret kX3_winningPlaceIn_25 rfl H
  · replace H := H.2 c
    refine zt_bipush (v := (-4)) kX3_winningPlaceIn_6 rfl ?_
    exact zt_iret kX3_winningPlaceIn_8 rfl H

set_option maxRecDepth 10000 in
theorem wX3_winningPlaceIn_32 {G : ZG} {d : Nat} {h : ZH} {Q : Option ZV → ZH → Prop} {x1 : Int32} {x2 : Int32} {x3 : Int32} {x4 : Int32} 
  (H : (12 ≤ x4 → vp_in x1 4096 ∧ (∀ h1 : ZH, h1 = zs1 h 18 0 x1.toNatClampNeg x3 → Q (some (zi x3)) h1)) ∧ (¬ 12 ≤ x4 → (¬ x3 = (-4) → vp_in x1 4096 ∧ (∀ h2 : ZH, h2 = zs1 h 18 0 x1.toNatClampNeg x3 → Q (some (zi x3)) h2)) ∧ (x3 = (-4) → zC G (d + 5) mX3_isSafeIn [zr 1 0, zi x1, zi x4] h (fun r4 h3 => ∃ y5 : Int32, r4 = some (zi y5) ∧ (¬ y5 = 0 → zC G (d + 5) mX3_winningPlaceIn [zr 1 0, zi (x1 &&& (((1 : Int32) <<< (x4 &&& 31)) ^^^ (-1))), zi (x2 + 1)] h3 (fun r7 h6 => ∃ y8 : Int32, r7 = some (zi y8) ∧ (¬ y8 = (-4) → zT G (d + 6) mX3_winningPlaceIn 32 [zr 1 0, zi x1, zi x2, zi x3, zi (x4 + 1)] [] h6 Q) ∧ (y8 = (-4) → zT G (d + 6) mX3_winningPlaceIn 32 [zr 1 0, zi x1, zi x2, zi x4, zi (x4 + 1)] [] h6 Q))) ∧ (y5 = 0 → zT G (d + 6) mX3_winningPlaceIn 32 [zr 1 0, zi x1, zi x2, zi x3, zi (x4 + 1)] [] h3 Q))))) :
  zT G (d + 6) mX3_winningPlaceIn 32 [zr 1 0, zi x1, zi x2, zi x3, zi x4] [] h Q := by
  refine zt_iload kX3_winningPlaceIn_32 rfl ?_
  refine zt_bipush (v := 12) kX3_winningPlaceIn_34 rfl ?_
  refine zt_icmp_ge kX3_winningPlaceIn_36 (fun c => ?_) (fun c => ?_)
  · replace H := H.1 c
    refine zt_aload_n kX3_winningPlaceIn_87 rfl ?_
    refine zt_get (v := zr 18 0) kX3_winningPlaceIn_88 fRX3_22 rfl (by decide) rfl ?_
    refine zt_iload_n kX3_winningPlaceIn_91 rfl ?_
    refine zt_iload_n kX3_winningPlaceIn_92 rfl ?_
    obtain ⟨hv, H⟩ := H
    refine zt_iast kX3_winningPlaceIn_93 rfl (by decide) hv ?_
    refine zt_heap (fun h1 eh1 => ?_)
    replace H := H h1 eh1
    refine zt_iload_n kX3_winningPlaceIn_94 rfl ?_
    exact zt_iret kX3_winningPlaceIn_95 rfl H
  · replace H := H.2 c
    refine zt_iload_n kX3_winningPlaceIn_39 rfl ?_
    refine zt_bipush (v := (-4)) kX3_winningPlaceIn_40 rfl ?_
    refine zt_icmp_ne kX3_winningPlaceIn_42 (fun c => ?_) (fun c => ?_)
    · replace H := H.1 c
      refine zt_aload_n kX3_winningPlaceIn_87 rfl ?_
      refine zt_get (v := zr 18 0) kX3_winningPlaceIn_88 fRX3_22 rfl (by decide) rfl ?_
      refine zt_iload_n kX3_winningPlaceIn_91 rfl ?_
      refine zt_iload_n kX3_winningPlaceIn_92 rfl ?_
      obtain ⟨hv, H⟩ := H
      refine zt_iast kX3_winningPlaceIn_93 rfl (by decide) hv ?_
      refine zt_heap (fun h2 eh2 => ?_)
      replace H := H h2 eh2
      refine zt_iload_n kX3_winningPlaceIn_94 rfl ?_
      exact zt_iret kX3_winningPlaceIn_95 rfl H
    · replace H := H.2 c
      refine zt_aload_n kX3_winningPlaceIn_45 rfl ?_
      refine zt_iload_n kX3_winningPlaceIn_46 rfl ?_
      refine zt_iload kX3_winningPlaceIn_47 rfl ?_
      refine zt_cV (as := [zi x1, zi x4]) kX3_winningPlaceIn_49 sRX3_79 rfl (by decide) rfl (by simp) rfl H (fun r4 h3 H => ?_)
      obtain ⟨y5, rfl, H⟩ := H
      refine zt_if_ne kX3_winningPlaceIn_52 (fun c => ?_) (fun c => ?_)
      · replace H := H.1 c
        refine zt_aload_n kX3_winningPlaceIn_58 rfl ?_
        refine zt_iload_n kX3_winningPlaceIn_59 rfl ?_
        refine zt_iconst (v := 1) kX3_winningPlaceIn_60 rfl ?_
        refine zt_iload kX3_winningPlaceIn_61 rfl ?_
        refine zt_ishl kX3_winningPlaceIn_63 ?_
        refine zt_iconst (v := (-1)) kX3_winningPlaceIn_64 rfl ?_
        refine zt_ixor kX3_winningPlaceIn_65 ?_
        refine zt_iand kX3_winningPlaceIn_66 ?_
        refine zt_iload_n kX3_winningPlaceIn_67 rfl ?_
        refine zt_iconst (v := 1) kX3_winningPlaceIn_68 rfl ?_
        refine zt_iadd kX3_winningPlaceIn_69 ?_
        refine zt_cV (as := [zi (x1 &&& (((1 : Int32) <<< (x4 &&& 31)) ^^^ (-1))), zi (x2 + 1)]) kX3_winningPlaceIn_70 sRX3_88 rfl (by decide) rfl (by simp) rfl H (fun r7 h6 H => ?_)
        obtain ⟨y8, rfl, H⟩ := H
        refine zt_bipush (v := (-4)) kX3_winningPlaceIn_73 rfl ?_
        refine zt_icmp_ne kX3_winningPlaceIn_75 (fun c => ?_) (fun c => ?_)
        · replace H := H.1 c
          refine zt_iinc (v := (x4 + 1)) (L' := [zr 1 0, zi x1, zi x2, zi x3, zi (x4 + 1)]) kX3_winningPlaceIn_81 rfl rfl (by decide) rfl ?_
          refine zt_goto kX3_winningPlaceIn_84 ?_
          exact H
        · replace H := H.2 c
          refine zt_iload kX3_winningPlaceIn_78 rfl ?_
          refine zt_istore_n (L' := [zr 1 0, zi x1, zi x2, zi x4, zi x4]) kX3_winningPlaceIn_80 (by decide) rfl ?_
          refine zt_iinc (v := (x4 + 1)) (L' := [zr 1 0, zi x1, zi x2, zi x4, zi (x4 + 1)]) kX3_winningPlaceIn_81 rfl rfl (by decide) rfl ?_
          refine zt_goto kX3_winningPlaceIn_84 ?_
          exact H
      · replace H := H.2 c
        refine zt_goto kX3_winningPlaceIn_55 ?_
        refine zt_iinc (v := (x4 + 1)) (L' := [zr 1 0, zi x1, zi x2, zi x3, zi (x4 + 1)]) kX3_winningPlaceIn_81 rfl rfl (by decide) rfl ?_
        refine zt_goto kX3_winningPlaceIn_84 ?_
        exact H

theorem kX12_finds_0 : zD cX12_finds 0 1 (.iconst 0) 1 := by decide +kernel
theorem kX12_finds_1 : zD cX12_finds 1 2 (.istore_n 2) 1 := by decide +kernel
theorem kX12_finds_2 : zD cX12_finds 2 3 (.iload_n 2) 1 := by decide +kernel
theorem kX12_finds_3 : zD cX12_finds 3 6 (.sipush 4096) 3 := by decide +kernel
theorem kX12_finds_6 : zB cX12_finds 6 9 127 (.if_icmp .ge 121) 121 := by decide +kernel
theorem kX12_finds_9 : zD cX12_finds 9 10 (.aload_n 0) 1 := by decide +kernel
theorem kX12_finds_10 : zD cX12_finds 10 13 (.getfield 25) 3 := by decide +kernel
theorem kX12_finds_13 : zD cX12_finds 13 14 (.iload_n 2) 1 := by decide +kernel
theorem kX12_finds_14 : zD cX12_finds 14 15 (.iconst 0) 1 := by decide +kernel
theorem kX12_finds_15 : zD cX12_finds 15 16 (.iastore) 1 := by decide +kernel
theorem kX12_finds_16 : zD cX12_finds 16 17 (.iload_n 2) 1 := by decide +kernel
theorem kX12_finds_17 : zD cX12_finds 17 18 (.aload_n 0) 1 := by decide +kernel
theorem kX12_finds_18 : zD cX12_finds 18 21 (.getfield 9) 3 := by decide +kernel
theorem kX12_finds_21 : zD cX12_finds 21 22 (.iconst 0) 1 := by decide +kernel
theorem kX12_finds_22 : zD cX12_finds 22 23 (.iaload) 1 := by decide +kernel
theorem kX12_finds_23 : zD cX12_finds 23 24 (.iconst (-1)) 1 := by decide +kernel
theorem kX12_finds_24 : zD cX12_finds 24 25 (.ixor) 1 := by decide +kernel
theorem kX12_finds_25 : zD cX12_finds 25 26 (.iand) 1 := by decide +kernel
theorem kX12_finds_26 : zB cX12_finds 26 29 121 (.ifCond .ne 95) 95 := by decide +kernel
theorem kX12_finds_29 : zD cX12_finds 29 30 (.aload_n 0) 1 := by decide +kernel
theorem kX12_finds_30 : zD cX12_finds 30 31 (.iload_n 2) 1 := by decide +kernel
theorem kX12_finds_31 : zD cX12_finds 31 34 (.invokevirtual 104) 3 := by decide +kernel
theorem kX12_finds_34 : zD cX12_finds 34 35 (.iload_n 2) 1 := by decide +kernel
theorem kX12_finds_35 : zB cX12_finds 35 38 41 (.if_icmp .eq 6) 6 := by decide +kernel
theorem kX12_finds_38 : zB cX12_finds 38 41 121 (.goto 83) 83 := by decide +kernel
theorem kX12_finds_41 : zD cX12_finds 41 42 (.iconst 0) 1 := by decide +kernel
theorem kX12_finds_42 : zD cX12_finds 42 43 (.istore_n 3) 1 := by decide +kernel
theorem kX12_finds_43 : zD cX12_finds 43 44 (.iload_n 3) 1 := by decide +kernel
theorem kX12_finds_44 : zD cX12_finds 44 46 (.bipush 12) 2 := by decide +kernel
theorem kX12_finds_46 : zB cX12_finds 46 49 121 (.if_icmp .ge 75) 75 := by decide +kernel
theorem kX12_finds_49 : zD cX12_finds 49 50 (.iload_n 2) 1 := by decide +kernel
theorem kX12_finds_50 : zD cX12_finds 50 51 (.iload_n 3) 1 := by decide +kernel
theorem kX12_finds_51 : zD cX12_finds 51 54 (.invokestatic 57) 3 := by decide +kernel
theorem kX12_finds_54 : zB cX12_finds 54 57 115 (.ifCond .eq 61) 61 := by decide +kernel
theorem kX12_finds_57 : zD cX12_finds 57 58 (.aload_n 0) 1 := by decide +kernel
theorem kX12_finds_58 : zD cX12_finds 58 59 (.iload_n 2) 1 := by decide +kernel
theorem kX12_finds_59 : zD cX12_finds 59 60 (.iconst 1) 1 := by decide +kernel
theorem kX12_finds_60 : zD cX12_finds 60 61 (.iload_n 3) 1 := by decide +kernel
theorem kX12_finds_61 : zD cX12_finds 61 62 (.ishl) 1 := by decide +kernel
theorem kX12_finds_62 : zD cX12_finds 62 65 (.invokevirtual 163) 3 := by decide +kernel
theorem kX12_finds_65 : zB cX12_finds 65 68 71 (.ifCond .le 6) 6 := by decide +kernel
theorem kX12_finds_68 : zB cX12_finds 68 71 115 (.goto 47) 47 := by decide +kernel
theorem kX12_finds_71 : zD cX12_finds 71 72 (.aload_n 0) 1 := by decide +kernel
theorem kX12_finds_72 : zD cX12_finds 72 75 (.getfield 25) 3 := by decide +kernel
theorem kX12_finds_75 : zD cX12_finds 75 76 (.iload_n 2) 1 := by decide +kernel
theorem kX12_finds_76 : zD cX12_finds 76 77 (.iconst 1) 1 := by decide +kernel
theorem kX12_finds_77 : zD cX12_finds 77 78 (.iload_n 3) 1 := by decide +kernel
theorem kX12_finds_78 : zD cX12_finds 78 79 (.ishl) 1 := by decide +kernel
theorem kX12_finds_79 : zD cX12_finds 79 80 (.iconst (-1)) 1 := by decide +kernel
theorem kX12_finds_80 : zD cX12_finds 80 81 (.ixor) 1 := by decide +kernel
theorem kX12_finds_81 : zD cX12_finds 81 82 (.iand) 1 := by decide +kernel
theorem kX12_finds_82 : zD cX12_finds 82 83 (.iaload) 1 := by decide +kernel
theorem kX12_finds_83 : zD cX12_finds 83 85 (.istore 4) 2 := by decide +kernel
theorem kX12_finds_85 : zD cX12_finds 85 86 (.aload_n 0) 1 := by decide +kernel
theorem kX12_finds_86 : zD cX12_finds 86 89 (.getfield 25) 3 := by decide +kernel
theorem kX12_finds_89 : zD cX12_finds 89 90 (.iload_n 2) 1 := by decide +kernel
theorem kX12_finds_90 : zD cX12_finds 90 91 (.aload_n 0) 1 := by decide +kernel
theorem kX12_finds_91 : zD cX12_finds 91 94 (.getfield 25) 3 := by decide +kernel
theorem kX12_finds_94 : zD cX12_finds 94 95 (.iload_n 2) 1 := by decide +kernel
theorem kX12_finds_95 : zD cX12_finds 95 96 (.iaload) 1 := by decide +kernel
theorem kX12_finds_96 : zD cX12_finds 96 97 (.iload_n 1) 1 := by decide +kernel
theorem kX12_finds_97 : zB cX12_finds 97 100 107 (.ifCond .eq 10) 10 := by decide +kernel
theorem kX12_finds_100 : zD cX12_finds 100 101 (.iconst 1) 1 := by decide +kernel
theorem kX12_finds_101 : zD cX12_finds 101 103 (.iload 4) 2 := by decide +kernel
theorem kX12_finds_103 : zD cX12_finds 103 104 (.isub) 1 := by decide +kernel
theorem kX12_finds_104 : zB cX12_finds 104 107 111 (.goto 7) 7 := by decide +kernel
theorem kX12_finds_107 : zD cX12_finds 107 108 (.iconst 1) 1 := by decide +kernel
theorem kX12_finds_108 : zD cX12_finds 108 110 (.iload 4) 2 := by decide +kernel
theorem kX12_finds_110 : zD cX12_finds 110 111 (.iadd) 1 := by decide +kernel
theorem kX12_finds_111 : zD cX12_finds 111 114 (.invokestatic 169) 3 := by decide +kernel
theorem kX12_finds_114 : zD cX12_finds 114 115 (.iastore) 1 := by decide +kernel
theorem kX12_finds_115 : zD cX12_finds 115 118 (.iinc 3 1) 3 := by decide +kernel
theorem kX12_finds_118 : zB cX12_finds 118 121 43 (.goto (-75)) (-75) := by decide +kernel
theorem kX12_finds_121 : zD cX12_finds 121 124 (.iinc 2 1) 3 := by decide +kernel
theorem kX12_finds_124 : zB cX12_finds 124 127 2 (.goto (-122)) (-122) := by decide +kernel
theorem kX12_finds_127 : zD cX12_finds 127 128 (.return_) 1 := by decide +kernel
set_option maxRecDepth 10000 in
theorem wX12_finds_0 {G : ZG} {d : Nat} {h : ZH} {Q : Option ZV → ZH → Prop} {x1 : Int32} 
  (H : zT G (d + 8) mX12_finds 2 [zr 5 0, zi x1, zi 0, zu, zu] [] h Q) :
  zT G (d + 8) mX12_finds 0 [zr 5 0, zi x1, zu, zu, zu] [] h Q := by
  refine zt_iconst (v := 0) kX12_finds_0 rfl ?_
  refine zt_istore_n (L' := [zr 5 0, zi x1, zi 0, zu, zu]) kX12_finds_1 (by decide) rfl ?_
  exact H

set_option maxRecDepth 10000 in
theorem wX12_finds_2 {G : ZG} {d : Nat} {h : ZH} {Q : Option ZV → ZH → Prop} {x1 : Int32} {x2 : Int32} 
  (H : (4096 ≤ x2 → Q none h) ∧ (¬ 4096 ≤ x2 → vp_in x2 4096 ∧ (∀ h1 : ZH, h1 = zs1 h 35 0 x2.toNatClampNeg 0 → (¬ (x2 &&& ((h1.1 30 0 0) ^^^ (-1))) = 0 → zT G (d + 8) mX12_finds 2 [zr 5 0, zi x1, zi (x2 + 1), zu, zu] [] h1 Q) ∧ ((x2 &&& ((h1.1 30 0 0) ^^^ (-1))) = 0 → zC G (d + 7) mX12_settled [zr 5 0, zi x2] h1 (fun r3 h2 => ∃ y4 : Int32, r3 = some (zi y4) ∧ (y4 = x2 → zT G (d + 8) mX12_finds 43 [zr 5 0, zi x1, zi x2, zi 0, zu] [] h2 Q) ∧ (¬ y4 = x2 → zT G (d + 8) mX12_finds 2 [zr 5 0, zi x1, zi (x2 + 1), zu, zu] [] h2 Q)))))) :
  zT G (d + 8) mX12_finds 2 [zr 5 0, zi x1, zi x2, zu, zu] [] h Q := by
  refine zt_iload_n kX12_finds_2 rfl ?_
  refine zt_sipush (v := 4096) kX12_finds_3 rfl ?_
  refine zt_icmp_ge kX12_finds_6 (fun c => ?_) (fun c => ?_)
  · replace H := H.1 c
    exact zt_vret kX12_finds_127 rfl H
  · replace H := H.2 c
    refine zt_aload_n kX12_finds_9 rfl ?_
    refine zt_get (v := zr 35 0) kX12_finds_10 fRX12_25 rfl (by decide) rfl ?_
    refine zt_iload_n kX12_finds_13 rfl ?_
    refine zt_iconst (v := 0) kX12_finds_14 rfl ?_
    obtain ⟨hv, H⟩ := H
    refine zt_iast kX12_finds_15 rfl (by decide) hv ?_
    refine zt_heap (fun h1 eh1 => ?_)
    replace H := H h1 eh1
    refine zt_iload_n kX12_finds_16 rfl ?_
    refine zt_aload_n kX12_finds_17 rfl ?_
    refine zt_get (v := zr 30 0) kX12_finds_18 fRX12_9 rfl (by decide) rfl ?_
    refine zt_iconst (v := 0) kX12_finds_21 rfl ?_
    refine zt_ialdc 0 rfl kX12_finds_22 rfl (by decide) (zvp_dec (by decide)) ?_
    refine zt_iconst (v := (-1)) kX12_finds_23 rfl ?_
    refine zt_ixor kX12_finds_24 ?_
    refine zt_iand kX12_finds_25 ?_
    refine zt_if_ne kX12_finds_26 (fun c => ?_) (fun c => ?_)
    · replace H := H.1 c
      refine zt_iinc (v := (x2 + 1)) (L' := [zr 5 0, zi x1, zi (x2 + 1), zu, zu]) kX12_finds_121 rfl rfl (by decide) rfl ?_
      refine zt_goto kX12_finds_124 ?_
      exact H
    · replace H := H.2 c
      refine zt_aload_n kX12_finds_29 rfl ?_
      refine zt_iload_n kX12_finds_30 rfl ?_
      refine zt_cV (as := [zi x2]) kX12_finds_31 sRX12_104 rfl (by decide) rfl (by simp) rfl H (fun r3 h2 H => ?_)
      obtain ⟨y4, rfl, H⟩ := H
      refine zt_iload_n kX12_finds_34 rfl ?_
      refine zt_icmp_eq kX12_finds_35 (fun c => ?_) (fun c => ?_)
      · replace H := H.1 c
        refine zt_iconst (v := 0) kX12_finds_41 rfl ?_
        refine zt_istore_n (L' := [zr 5 0, zi x1, zi x2, zi 0, zu]) kX12_finds_42 (by decide) rfl ?_
        exact H
      · replace H := H.2 c
        refine zt_goto kX12_finds_38 ?_
        refine zt_iinc (v := (x2 + 1)) (L' := [zr 5 0, zi x1, zi (x2 + 1), zu, zu]) kX12_finds_121 rfl rfl (by decide) rfl ?_
        refine zt_goto kX12_finds_124 ?_
        exact H

set_option maxRecDepth 10000 in
theorem wX12_finds_43 {G : ZG} {d : Nat} {h : ZH} {Q : Option ZV → ZH → Prop} {x1 : Int32} {x2 : Int32} {x3 : Int32} 
  (H : (12 ≤ x3 → zT G (d + 8) mX12_finds 2 [zr 5 0, zi x1, zi (x2 + 1), zu, zu] [] h Q) ∧ (¬ 12 ≤ x3 → (¬ (hasI x2 x3) → zT G (d + 8) mX12_finds 43 [zr 5 0, zi x1, zi x2, zi (x3 + 1), zu] [] h Q) ∧ ((hasI x2 x3) → zC G (d + 7) mX12_fallsOf [zr 5 0, zi x2, zi ((1 : Int32) <<< (x3 &&& 31))] h (fun r2 h1 => ∃ y3 : Int32, r2 = some (zi y3) ∧ (y3 ≤ 0 → vp_in (x2 &&& (((1 : Int32) <<< (x3 &&& 31)) ^^^ (-1))) 4096 ∧ ∀ y4 : Int32, y4 = (h1.1 35 0 (x2 &&& (((1 : Int32) <<< (x3 &&& 31)) ^^^ (-1))).toNatClampNeg) → vp_in x2 4096 ∧ (x1 = 0 → vp_in x2 4096 ∧ (∀ h5 : ZH, h5 = zs1 h1 35 0 x2.toNatClampNeg (zmax (h1.1 35 0 x2.toNatClampNeg) (1 + y4)) → zT G (d + 8) mX12_finds 43 [zr 5 0, zi x1, zi x2, zi (x3 + 1), zu] [] h5 Q)) ∧ (¬ x1 = 0 → vp_in x2 4096 ∧ (∀ h6 : ZH, h6 = zs1 h1 35 0 x2.toNatClampNeg (zmax (h1.1 35 0 x2.toNatClampNeg) (1 - y4)) → zT G (d + 8) mX12_finds 43 [zr 5 0, zi x1, zi x2, zi (x3 + 1), zu] [] h6 Q))) ∧ (¬ y3 ≤ 0 → zT G (d + 8) mX12_finds 43 [zr 5 0, zi x1, zi x2, zi (x3 + 1), zu] [] h1 Q))))) :
  zT G (d + 8) mX12_finds 43 [zr 5 0, zi x1, zi x2, zi x3, zu] [] h Q := by
  refine zt_iload_n kX12_finds_43 rfl ?_
  refine zt_bipush (v := 12) kX12_finds_44 rfl ?_
  refine zt_icmp_ge kX12_finds_46 (fun c => ?_) (fun c => ?_)
  · replace H := H.1 c
    refine zt_iinc (v := (x2 + 1)) (L' := [zr 5 0, zi x1, zi (x2 + 1), zi x3, zu]) kX12_finds_121 rfl rfl (by decide) rfl ?_
    refine zt_goto kX12_finds_124 ?_
    exact zt_sub [zr 5 0, zi x1, zi (x2 + 1), zu, zu] ⟨rfl, ⟨rfl, ⟨rfl, trivial⟩⟩⟩ H
  · replace H := H.2 c
    refine zt_iload_n kX12_finds_49 rfl ?_
    refine zt_iload_n kX12_finds_50 rfl ?_
    refine zt_cS (as := [zi x2, zi x3]) kX12_finds_51 sRX12_57 rfl (by simp) rfl (sX12_has _  ) (fun r h0 hq => ?_)
    obtain ⟨rfl, hh⟩ := hq
    replace hh := hh.symm
    subst hh
    refine zt_ifb_eq kX12_finds_54 (fun c => ?_) (fun c => ?_)
    · replace H := H.1 c
      refine zt_iinc (v := (x3 + 1)) (L' := [zr 5 0, zi x1, zi x2, zi (x3 + 1), zu]) kX12_finds_115 rfl rfl (by decide) rfl ?_
      refine zt_goto kX12_finds_118 ?_
      exact H
    · replace H := H.2 c
      refine zt_aload_n kX12_finds_57 rfl ?_
      refine zt_iload_n kX12_finds_58 rfl ?_
      refine zt_iconst (v := 1) kX12_finds_59 rfl ?_
      refine zt_iload_n kX12_finds_60 rfl ?_
      refine zt_ishl kX12_finds_61 ?_
      refine zt_cV (as := [zi x2, zi ((1 : Int32) <<< (x3 &&& 31))]) kX12_finds_62 sRX12_163 rfl (by decide) rfl (by simp) rfl H (fun r2 h1 H => ?_)
      obtain ⟨y3, rfl, H⟩ := H
      refine zt_if_le kX12_finds_65 (fun c => ?_) (fun c => ?_)
      · replace H := H.1 c
        refine zt_aload_n kX12_finds_71 rfl ?_
        refine zt_get (v := zr 35 0) kX12_finds_72 fRX12_25 rfl (by decide) rfl ?_
        refine zt_iload_n kX12_finds_75 rfl ?_
        refine zt_iconst (v := 1) kX12_finds_76 rfl ?_
        refine zt_iload_n kX12_finds_77 rfl ?_
        refine zt_ishl kX12_finds_78 ?_
        refine zt_iconst (v := (-1)) kX12_finds_79 rfl ?_
        refine zt_ixor kX12_finds_80 ?_
        refine zt_iand kX12_finds_81 ?_
        obtain ⟨hv, H⟩ := H
        refine zt_iald kX12_finds_82 rfl (by decide) hv ?_
        refine zt_topi (fun y4 ey4 => ?_)
        replace H := H y4 ey4
        refine zt_istore (L' := [zr 5 0, zi x1, zi x2, zi x3, zi y4]) kX12_finds_83 (by decide) rfl ?_
        refine zt_aload_n kX12_finds_85 rfl ?_
        refine zt_get (v := zr 35 0) kX12_finds_86 fRX12_25 rfl (by decide) rfl ?_
        refine zt_iload_n kX12_finds_89 rfl ?_
        refine zt_aload_n kX12_finds_90 rfl ?_
        refine zt_get (v := zr 35 0) kX12_finds_91 fRX12_25 rfl (by decide) rfl ?_
        refine zt_iload_n kX12_finds_94 rfl ?_
        obtain ⟨hv, H⟩ := H
        refine zt_iald kX12_finds_95 rfl (by decide) hv ?_
        refine zt_iload_n kX12_finds_96 rfl ?_
        refine zt_if_eq kX12_finds_97 (fun c => ?_) (fun c => ?_)
        · replace H := H.1 c
          refine zt_iconst (v := 1) kX12_finds_107 rfl ?_
          refine zt_iload kX12_finds_108 rfl ?_
          refine zt_iadd kX12_finds_110 ?_
          refine zt_cS (as := [zi (h1.1 35 0 x2.toNatClampNeg), zi (1 + y4)]) kX12_finds_111 sRX12_169 rfl (by simp) rfl (sX12_most _  ) (fun r h0 hq => ?_)
          obtain ⟨rfl, hh⟩ := hq
          replace hh := hh.symm
          subst hh
          obtain ⟨hv, H⟩ := H
          refine zt_iast kX12_finds_114 rfl (by decide) hv ?_
          refine zt_heap (fun h5 eh5 => ?_)
          replace H := H h5 eh5
          refine zt_iinc (v := (x3 + 1)) (L' := [zr 5 0, zi x1, zi x2, zi (x3 + 1), zi y4]) kX12_finds_115 rfl rfl (by decide) rfl ?_
          refine zt_goto kX12_finds_118 ?_
          exact zt_sub [zr 5 0, zi x1, zi x2, zi (x3 + 1), zu] ⟨rfl, ⟨rfl, ⟨rfl, ⟨rfl, trivial⟩⟩⟩⟩ H
        · replace H := H.2 c
          refine zt_iconst (v := 1) kX12_finds_100 rfl ?_
          refine zt_iload kX12_finds_101 rfl ?_
          refine zt_isub kX12_finds_103 ?_
          refine zt_goto kX12_finds_104 ?_
          refine zt_cS (as := [zi (h1.1 35 0 x2.toNatClampNeg), zi (1 - y4)]) kX12_finds_111 sRX12_169 rfl (by simp) rfl (sX12_most _  ) (fun r h0 hq => ?_)
          obtain ⟨rfl, hh⟩ := hq
          replace hh := hh.symm
          subst hh
          obtain ⟨hv, H⟩ := H
          refine zt_iast kX12_finds_114 rfl (by decide) hv ?_
          refine zt_heap (fun h6 eh6 => ?_)
          replace H := H h6 eh6
          refine zt_iinc (v := (x3 + 1)) (L' := [zr 5 0, zi x1, zi x2, zi (x3 + 1), zi y4]) kX12_finds_115 rfl rfl (by decide) rfl ?_
          refine zt_goto kX12_finds_118 ?_
          exact zt_sub [zr 5 0, zi x1, zi x2, zi (x3 + 1), zu] ⟨rfl, ⟨rfl, ⟨rfl, ⟨rfl, trivial⟩⟩⟩⟩ H
      · replace H := H.2 c
        refine zt_goto kX12_finds_68 ?_
        refine zt_iinc (v := (x3 + 1)) (L' := [zr 5 0, zi x1, zi x2, zi (x3 + 1), zu]) kX12_finds_115 rfl rfl (by decide) rfl ?_
        refine zt_goto kX12_finds_118 ?_
        exact H

theorem kX12_firstTo_0 : zD cX12_firstTo 0 1 (.aload_n 0) 1 := by decide +kernel
theorem kX12_firstTo_1 : zD cX12_firstTo 1 4 (.getfield 25) 3 := by decide +kernel
theorem kX12_firstTo_4 : zD cX12_firstTo 4 5 (.aload_n 0) 1 := by decide +kernel
theorem kX12_firstTo_5 : zD cX12_firstTo 5 8 (.getfield 9) 3 := by decide +kernel
theorem kX12_firstTo_8 : zD cX12_firstTo 8 9 (.iconst 0) 1 := by decide +kernel
theorem kX12_firstTo_9 : zD cX12_firstTo 9 10 (.iaload) 1 := by decide +kernel
theorem kX12_firstTo_10 : zD cX12_firstTo 10 11 (.iaload) 1 := by decide +kernel
theorem kX12_firstTo_11 : zD cX12_firstTo 11 12 (.istore_n 2) 1 := by decide +kernel
theorem kX12_firstTo_12 : zD cX12_firstTo 12 13 (.iconst 0) 1 := by decide +kernel
theorem kX12_firstTo_13 : zD cX12_firstTo 13 14 (.istore_n 3) 1 := by decide +kernel
theorem kX12_firstTo_14 : zD cX12_firstTo 14 15 (.iload_n 3) 1 := by decide +kernel
theorem kX12_firstTo_15 : zD cX12_firstTo 15 17 (.bipush 12) 2 := by decide +kernel
theorem kX12_firstTo_17 : zB cX12_firstTo 17 20 97 (.if_icmp .ge 80) 80 := by decide +kernel
theorem kX12_firstTo_20 : zD cX12_firstTo 20 21 (.iload_n 2) 1 := by decide +kernel
theorem kX12_firstTo_21 : zB cX12_firstTo 21 24 97 (.ifCond .le 76) 76 := by decide +kernel
theorem kX12_firstTo_24 : zD cX12_firstTo 24 25 (.aload_n 0) 1 := by decide +kernel
theorem kX12_firstTo_25 : zD cX12_firstTo 25 26 (.iload_n 3) 1 := by decide +kernel
theorem kX12_firstTo_26 : zD cX12_firstTo 26 29 (.invokevirtual 133) 3 := by decide +kernel
theorem kX12_firstTo_29 : zB cX12_firstTo 29 32 91 (.ifCond .eq 62) 62 := by decide +kernel
theorem kX12_firstTo_32 : zD cX12_firstTo 32 33 (.aload_n 0) 1 := by decide +kernel
theorem kX12_firstTo_33 : zD cX12_firstTo 33 34 (.aload_n 0) 1 := by decide +kernel
theorem kX12_firstTo_34 : zD cX12_firstTo 34 37 (.getfield 9) 3 := by decide +kernel
theorem kX12_firstTo_37 : zD cX12_firstTo 37 38 (.iconst 0) 1 := by decide +kernel
theorem kX12_firstTo_38 : zD cX12_firstTo 38 39 (.iaload) 1 := by decide +kernel
theorem kX12_firstTo_39 : zD cX12_firstTo 39 40 (.iconst 1) 1 := by decide +kernel
theorem kX12_firstTo_40 : zD cX12_firstTo 40 41 (.iload_n 3) 1 := by decide +kernel
theorem kX12_firstTo_41 : zD cX12_firstTo 41 42 (.ishl) 1 := by decide +kernel
theorem kX12_firstTo_42 : zD cX12_firstTo 42 45 (.invokevirtual 163) 3 := by decide +kernel
theorem kX12_firstTo_45 : zB cX12_firstTo 45 48 51 (.ifCond .le 6) 6 := by decide +kernel
theorem kX12_firstTo_48 : zB cX12_firstTo 48 51 91 (.goto 43) 43 := by decide +kernel
theorem kX12_firstTo_51 : zD cX12_firstTo 51 52 (.aload_n 0) 1 := by decide +kernel
theorem kX12_firstTo_52 : zD cX12_firstTo 52 55 (.getfield 25) 3 := by decide +kernel
theorem kX12_firstTo_55 : zD cX12_firstTo 55 56 (.aload_n 0) 1 := by decide +kernel
theorem kX12_firstTo_56 : zD cX12_firstTo 56 59 (.getfield 9) 3 := by decide +kernel
theorem kX12_firstTo_59 : zD cX12_firstTo 59 60 (.iconst 0) 1 := by decide +kernel
theorem kX12_firstTo_60 : zD cX12_firstTo 60 61 (.iaload) 1 := by decide +kernel
theorem kX12_firstTo_61 : zD cX12_firstTo 61 62 (.iconst 1) 1 := by decide +kernel
theorem kX12_firstTo_62 : zD cX12_firstTo 62 63 (.iload_n 3) 1 := by decide +kernel
theorem kX12_firstTo_63 : zD cX12_firstTo 63 64 (.ishl) 1 := by decide +kernel
theorem kX12_firstTo_64 : zD cX12_firstTo 64 65 (.iconst (-1)) 1 := by decide +kernel
theorem kX12_firstTo_65 : zD cX12_firstTo 65 66 (.ixor) 1 := by decide +kernel
theorem kX12_firstTo_66 : zD cX12_firstTo 66 67 (.iand) 1 := by decide +kernel
theorem kX12_firstTo_67 : zD cX12_firstTo 67 68 (.iaload) 1 := by decide +kernel
theorem kX12_firstTo_68 : zD cX12_firstTo 68 70 (.istore 4) 2 := by decide +kernel
theorem kX12_firstTo_70 : zD cX12_firstTo 70 71 (.iload_n 2) 1 := by decide +kernel
theorem kX12_firstTo_71 : zD cX12_firstTo 71 72 (.iload_n 1) 1 := by decide +kernel
theorem kX12_firstTo_72 : zB cX12_firstTo 72 75 82 (.ifCond .eq 10) 10 := by decide +kernel
theorem kX12_firstTo_75 : zD cX12_firstTo 75 76 (.iconst 1) 1 := by decide +kernel
theorem kX12_firstTo_76 : zD cX12_firstTo 76 78 (.iload 4) 2 := by decide +kernel
theorem kX12_firstTo_78 : zD cX12_firstTo 78 79 (.isub) 1 := by decide +kernel
theorem kX12_firstTo_79 : zB cX12_firstTo 79 82 86 (.goto 7) 7 := by decide +kernel
theorem kX12_firstTo_82 : zD cX12_firstTo 82 83 (.iconst 1) 1 := by decide +kernel
theorem kX12_firstTo_83 : zD cX12_firstTo 83 85 (.iload 4) 2 := by decide +kernel
theorem kX12_firstTo_85 : zD cX12_firstTo 85 86 (.iadd) 1 := by decide +kernel
theorem kX12_firstTo_86 : zB cX12_firstTo 86 89 91 (.if_icmp .ne 5) 5 := by decide +kernel
theorem kX12_firstTo_89 : zD cX12_firstTo 89 90 (.iload_n 3) 1 := by decide +kernel
theorem kX12_firstTo_90 : zD cX12_firstTo 90 91 (.ireturn) 1 := by decide +kernel
theorem kX12_firstTo_91 : zD cX12_firstTo 91 94 (.iinc 3 1) 3 := by decide +kernel
theorem kX12_firstTo_94 : zB cX12_firstTo 94 97 14 (.goto (-80)) (-80) := by decide +kernel
theorem kX12_firstTo_97 : zD cX12_firstTo 97 99 (.bipush (-4)) 2 := by decide +kernel
theorem kX12_firstTo_99 : zD cX12_firstTo 99 100 (.ireturn) 1 := by decide +kernel
set_option maxRecDepth 10000 in
theorem wX12_firstTo_0 {G : ZG} {d : Nat} {h : ZH} {Q : Option ZV → ZH → Prop} {x1 : Int32} 
  (H : vp_in (h.1 30 0 0) 4096 ∧ zT G (d + 8) mX12_firstTo 14 [zr 5 0, zi x1, zi (h.1 35 0 (h.1 30 0 0).toNatClampNeg), zi 0, zu] [] h Q) :
  zT G (d + 8) mX12_firstTo 0 [zr 5 0, zi x1, zu, zu, zu] [] h Q := by
  refine zt_aload_n kX12_firstTo_0 rfl ?_
  refine zt_get (v := zr 35 0) kX12_firstTo_1 fRX12_25 rfl (by decide) rfl ?_
  refine zt_aload_n kX12_firstTo_4 rfl ?_
  refine zt_get (v := zr 30 0) kX12_firstTo_5 fRX12_9 rfl (by decide) rfl ?_
  refine zt_iconst (v := 0) kX12_firstTo_8 rfl ?_
  refine zt_ialdc 0 rfl kX12_firstTo_9 rfl (by decide) (zvp_dec (by decide)) ?_
  obtain ⟨hv, H⟩ := H
  refine zt_iald kX12_firstTo_10 rfl (by decide) hv ?_
  refine zt_istore_n (L' := [zr 5 0, zi x1, zi (h.1 35 0 (h.1 30 0 0).toNatClampNeg), zu, zu]) kX12_firstTo_11 (by decide) rfl ?_
  refine zt_iconst (v := 0) kX12_firstTo_12 rfl ?_
  refine zt_istore_n (L' := [zr 5 0, zi x1, zi (h.1 35 0 (h.1 30 0 0).toNatClampNeg), zi 0, zu]) kX12_firstTo_13 (by decide) rfl ?_
  exact H

set_option maxRecDepth 10000 in
theorem wX12_firstTo_14 {G : ZG} {d : Nat} {h : ZH} {Q : Option ZV → ZH → Prop} {x1 : Int32} {x2 : Int32} {x3 : Int32} 
  (H : (12 ≤ x3 → Q (some (zi (-4))) h) ∧ (¬ 12 ≤ x3 → (x2 ≤ 0 → Q (some (zi (-4))) h) ∧ (¬ x2 ≤ 0 → (¬ (hasI (h.1 30 0 0) x3) → zT G (d + 8) mX12_firstTo 14 [zr 5 0, zi x1, zi x2, zi (x3 + 1), zu] [] h Q) ∧ ((hasI (h.1 30 0 0) x3) → zC G (d + 7) mX12_fallsOf [zr 5 0, zi (h.1 30 0 0), zi ((1 : Int32) <<< (x3 &&& 31))] h (fun r2 h1 => ∃ y3 : Int32, r2 = some (zi y3) ∧ (y3 ≤ 0 → vp_in ((h1.1 30 0 0) &&& (((1 : Int32) <<< (x3 &&& 31)) ^^^ (-1))) 4096 ∧ ∀ y4 : Int32, y4 = (h1.1 35 0 ((h1.1 30 0 0) &&& (((1 : Int32) <<< (x3 &&& 31)) ^^^ (-1))).toNatClampNeg) → (x1 = 0 → (¬ x2 = (1 + y4) → zT G (d + 8) mX12_firstTo 14 [zr 5 0, zi x1, zi x2, zi (x3 + 1), zu] [] h1 Q) ∧ (x2 = (1 + y4) → Q (some (zi x3)) h1)) ∧ (¬ x1 = 0 → (¬ x2 = (1 - y4) → zT G (d + 8) mX12_firstTo 14 [zr 5 0, zi x1, zi x2, zi (x3 + 1), zu] [] h1 Q) ∧ (x2 = (1 - y4) → Q (some (zi x3)) h1))) ∧ (¬ y3 ≤ 0 → zT G (d + 8) mX12_firstTo 14 [zr 5 0, zi x1, zi x2, zi (x3 + 1), zu] [] h1 Q)))))) :
  zT G (d + 8) mX12_firstTo 14 [zr 5 0, zi x1, zi x2, zi x3, zu] [] h Q := by
  refine zt_iload_n kX12_firstTo_14 rfl ?_
  refine zt_bipush (v := 12) kX12_firstTo_15 rfl ?_
  refine zt_icmp_ge kX12_firstTo_17 (fun c => ?_) (fun c => ?_)
  · replace H := H.1 c
    refine zt_bipush (v := (-4)) kX12_firstTo_97 rfl ?_
    exact zt_iret kX12_firstTo_99 rfl H
  · replace H := H.2 c
    refine zt_iload_n kX12_firstTo_20 rfl ?_
    refine zt_if_le kX12_firstTo_21 (fun c => ?_) (fun c => ?_)
    · replace H := H.1 c
      refine zt_bipush (v := (-4)) kX12_firstTo_97 rfl ?_
      exact zt_iret kX12_firstTo_99 rfl H
    · replace H := H.2 c
      refine zt_aload_n kX12_firstTo_24 rfl ?_
      refine zt_iload_n kX12_firstTo_25 rfl ?_
      refine zt_cV (as := [zi x3]) kX12_firstTo_26 sRX12_133 rfl (by decide) rfl (by simp) rfl (sX12_isThere _  ) (fun r h0 hq => ?_)
      obtain ⟨rfl, hh⟩ := hq
      replace hh := hh.symm
      subst hh
      refine zt_ifb_eq kX12_firstTo_29 (fun c => ?_) (fun c => ?_)
      · replace H := H.1 c
        refine zt_iinc (v := (x3 + 1)) (L' := [zr 5 0, zi x1, zi x2, zi (x3 + 1), zu]) kX12_firstTo_91 rfl rfl (by decide) rfl ?_
        refine zt_goto kX12_firstTo_94 ?_
        exact H
      · replace H := H.2 c
        refine zt_aload_n kX12_firstTo_32 rfl ?_
        refine zt_aload_n kX12_firstTo_33 rfl ?_
        refine zt_get (v := zr 30 0) kX12_firstTo_34 fRX12_9 rfl (by decide) rfl ?_
        refine zt_iconst (v := 0) kX12_firstTo_37 rfl ?_
        refine zt_ialdc 0 rfl kX12_firstTo_38 rfl (by decide) (zvp_dec (by decide)) ?_
        refine zt_iconst (v := 1) kX12_firstTo_39 rfl ?_
        refine zt_iload_n kX12_firstTo_40 rfl ?_
        refine zt_ishl kX12_firstTo_41 ?_
        refine zt_cV (as := [zi (h.1 30 0 0), zi ((1 : Int32) <<< (x3 &&& 31))]) kX12_firstTo_42 sRX12_163 rfl (by decide) rfl (by simp) rfl H (fun r2 h1 H => ?_)
        obtain ⟨y3, rfl, H⟩ := H
        refine zt_if_le kX12_firstTo_45 (fun c => ?_) (fun c => ?_)
        · replace H := H.1 c
          refine zt_aload_n kX12_firstTo_51 rfl ?_
          refine zt_get (v := zr 35 0) kX12_firstTo_52 fRX12_25 rfl (by decide) rfl ?_
          refine zt_aload_n kX12_firstTo_55 rfl ?_
          refine zt_get (v := zr 30 0) kX12_firstTo_56 fRX12_9 rfl (by decide) rfl ?_
          refine zt_iconst (v := 0) kX12_firstTo_59 rfl ?_
          refine zt_ialdc 0 rfl kX12_firstTo_60 rfl (by decide) (zvp_dec (by decide)) ?_
          refine zt_iconst (v := 1) kX12_firstTo_61 rfl ?_
          refine zt_iload_n kX12_firstTo_62 rfl ?_
          refine zt_ishl kX12_firstTo_63 ?_
          refine zt_iconst (v := (-1)) kX12_firstTo_64 rfl ?_
          refine zt_ixor kX12_firstTo_65 ?_
          refine zt_iand kX12_firstTo_66 ?_
          obtain ⟨hv, H⟩ := H
          refine zt_iald kX12_firstTo_67 rfl (by decide) hv ?_
          refine zt_topi (fun y4 ey4 => ?_)
          replace H := H y4 ey4
          refine zt_istore (L' := [zr 5 0, zi x1, zi x2, zi x3, zi y4]) kX12_firstTo_68 (by decide) rfl ?_
          refine zt_iload_n kX12_firstTo_70 rfl ?_
          refine zt_iload_n kX12_firstTo_71 rfl ?_
          refine zt_if_eq kX12_firstTo_72 (fun c => ?_) (fun c => ?_)
          · replace H := H.1 c
            refine zt_iconst (v := 1) kX12_firstTo_82 rfl ?_
            refine zt_iload kX12_firstTo_83 rfl ?_
            refine zt_iadd kX12_firstTo_85 ?_
            refine zt_icmp_ne kX12_firstTo_86 (fun c => ?_) (fun c => ?_)
            · replace H := H.1 c
              refine zt_iinc (v := (x3 + 1)) (L' := [zr 5 0, zi x1, zi x2, zi (x3 + 1), zi y4]) kX12_firstTo_91 rfl rfl (by decide) rfl ?_
              refine zt_goto kX12_firstTo_94 ?_
              exact zt_sub [zr 5 0, zi x1, zi x2, zi (x3 + 1), zu] ⟨rfl, ⟨rfl, ⟨rfl, ⟨rfl, trivial⟩⟩⟩⟩ H
            · replace H := H.2 c
              refine zt_iload_n kX12_firstTo_89 rfl ?_
              exact zt_iret kX12_firstTo_90 rfl H
          · replace H := H.2 c
            refine zt_iconst (v := 1) kX12_firstTo_75 rfl ?_
            refine zt_iload kX12_firstTo_76 rfl ?_
            refine zt_isub kX12_firstTo_78 ?_
            refine zt_goto kX12_firstTo_79 ?_
            refine zt_icmp_ne kX12_firstTo_86 (fun c => ?_) (fun c => ?_)
            · replace H := H.1 c
              refine zt_iinc (v := (x3 + 1)) (L' := [zr 5 0, zi x1, zi x2, zi (x3 + 1), zi y4]) kX12_firstTo_91 rfl rfl (by decide) rfl ?_
              refine zt_goto kX12_firstTo_94 ?_
              exact zt_sub [zr 5 0, zi x1, zi x2, zi (x3 + 1), zu] ⟨rfl, ⟨rfl, ⟨rfl, ⟨rfl, trivial⟩⟩⟩⟩ H
            · replace H := H.2 c
              refine zt_iload_n kX12_firstTo_89 rfl ?_
              exact zt_iret kX12_firstTo_90 rfl H
        · replace H := H.2 c
          refine zt_goto kX12_firstTo_48 ?_
          refine zt_iinc (v := (x3 + 1)) (L' := [zr 5 0, zi x1, zi x2, zi (x3 + 1), zu]) kX12_firstTo_91 rfl rfl (by decide) rfl ?_
          refine zt_goto kX12_firstTo_94 ?_
          exact H

theorem kX12_longest_0 : zD cX12_longest 0 1 (.iload_n 1) 1 := by decide +kernel
theorem kX12_longest_1 : zD cX12_longest 1 2 (.iconst 0) 1 := by decide +kernel
theorem kX12_longest_2 : zD cX12_longest 2 3 (.iconst 1) 1 := by decide +kernel
theorem kX12_longest_3 : zD cX12_longest 3 6 (.invokestatic 53) 3 := by decide +kernel
theorem kX12_longest_6 : zB cX12_longest 6 9 11 (.ifCond .ne 5) 5 := by decide +kernel
theorem kX12_longest_9 : zD cX12_longest 9 10 (.iconst (-1)) 1 := by decide +kernel
theorem kX12_longest_10 : zD cX12_longest 10 11 (.ireturn) 1 := by decide +kernel
theorem kX12_longest_11 : zD cX12_longest 11 12 (.aload_n 0) 1 := by decide +kernel
theorem kX12_longest_12 : zD cX12_longest 12 13 (.iconst 0) 1 := by decide +kernel
theorem kX12_longest_13 : zD cX12_longest 13 16 (.invokevirtual 172) 3 := by decide +kernel
theorem kX12_longest_16 : zD cX12_longest 16 17 (.iload_n 1) 1 := by decide +kernel
theorem kX12_longest_17 : zB cX12_longest 17 20 34 (.ifCond .ne 17) 17 := by decide +kernel
theorem kX12_longest_20 : zD cX12_longest 20 21 (.aload_n 0) 1 := by decide +kernel
theorem kX12_longest_21 : zD cX12_longest 21 24 (.getfield 25) 3 := by decide +kernel
theorem kX12_longest_24 : zD cX12_longest 24 25 (.aload_n 0) 1 := by decide +kernel
theorem kX12_longest_25 : zD cX12_longest 25 28 (.getfield 9) 3 := by decide +kernel
theorem kX12_longest_28 : zD cX12_longest 28 29 (.iconst 0) 1 := by decide +kernel
theorem kX12_longest_29 : zD cX12_longest 29 30 (.iaload) 1 := by decide +kernel
theorem kX12_longest_30 : zD cX12_longest 30 31 (.iaload) 1 := by decide +kernel
theorem kX12_longest_31 : zB cX12_longest 31 34 39 (.goto 8) 8 := by decide +kernel
theorem kX12_longest_34 : zD cX12_longest 34 35 (.aload_n 0) 1 := by decide +kernel
theorem kX12_longest_35 : zD cX12_longest 35 36 (.iconst 0) 1 := by decide +kernel
theorem kX12_longest_36 : zD cX12_longest 36 39 (.invokevirtual 176) 3 := by decide +kernel
theorem kX12_longest_39 : zD cX12_longest 39 40 (.ireturn) 1 := by decide +kernel
set_option maxRecDepth 10000 in
theorem wX12_longest_0 {G : ZG} {d : Nat} {h : ZH} {Q : Option ZV → ZH → Prop} {x1 : Int32} 
  (H : (((0 : Int32) ≤ x1 ∧ x1 ≤ (1 : Int32)) → zC G (d + 8) mX12_finds [zr 5 0, zi 0] h (fun r2 h1 => r2 = none ∧ (¬ x1 = 0 → zC G (d + 8) mX12_firstTo [zr 5 0, zi 0] h1 (fun r4 h3 => ∃ y5 : Int32, r4 = some (zi y5) ∧ Q (some (zi y5)) h3)) ∧ (x1 = 0 → vp_in (h1.1 30 0 0) 4096 ∧ Q (some (zi (h1.1 35 0 (h1.1 30 0 0).toNatClampNeg))) h1))) ∧ (¬ ((0 : Int32) ≤ x1 ∧ x1 ≤ (1 : Int32)) → Q (some (zi (-1))) h)) :
  zT G (d + 9) mX12_longest 0 [zr 5 0, zi x1] [] h Q := by
  refine zt_iload_n kX12_longest_0 rfl ?_
  refine zt_iconst (v := 0) kX12_longest_1 rfl ?_
  refine zt_iconst (v := 1) kX12_longest_2 rfl ?_
  refine zt_cS (as := [zi x1, zi 0, zi 1]) kX12_longest_3 sRX12_53 rfl (by simp) rfl (sX12_isIn _  ) (fun r h0 hq => ?_)
  obtain ⟨rfl, hh⟩ := hq
  replace hh := hh.symm
  subst hh
  refine zt_ifb_ne kX12_longest_6 (fun c => ?_) (fun c => ?_)
  · replace H := H.1 c
    refine zt_aload_n kX12_longest_11 rfl ?_
    refine zt_iconst (v := 0) kX12_longest_12 rfl ?_
    refine zt_cV (as := [zi 0]) kX12_longest_13 sRX12_172 rfl (by decide) rfl (by simp) rfl H (fun r2 h1 H => ?_)
    obtain ⟨rfl, H⟩ := H
    refine zt_iload_n kX12_longest_16 rfl ?_
    refine zt_if_ne kX12_longest_17 (fun c => ?_) (fun c => ?_)
    · replace H := H.1 c
      refine zt_aload_n kX12_longest_34 rfl ?_
      refine zt_iconst (v := 0) kX12_longest_35 rfl ?_
      refine zt_cV (as := [zi 0]) kX12_longest_36 sRX12_176 rfl (by decide) rfl (by simp) rfl H (fun r4 h3 H => ?_)
      obtain ⟨y5, rfl, H⟩ := H
      exact zt_iret kX12_longest_39 rfl H
    · replace H := H.2 c
      refine zt_aload_n kX12_longest_20 rfl ?_
      refine zt_get (v := zr 35 0) kX12_longest_21 fRX12_25 rfl (by decide) rfl ?_
      refine zt_aload_n kX12_longest_24 rfl ?_
      refine zt_get (v := zr 30 0) kX12_longest_25 fRX12_9 rfl (by decide) rfl ?_
      refine zt_iconst (v := 0) kX12_longest_28 rfl ?_
      refine zt_ialdc 0 rfl kX12_longest_29 rfl (by decide) (zvp_dec (by decide)) ?_
      obtain ⟨hv, H⟩ := H
      refine zt_iald kX12_longest_30 rfl (by decide) hv ?_
      refine zt_goto kX12_longest_31 ?_
      exact zt_iret kX12_longest_39 rfl H
  · replace H := H.2 c
    refine zt_iconst (v := (-1)) kX12_longest_9 rfl ?_
    exact zt_iret kX12_longest_10 rfl H

theorem kX12_game_0 : zD cX12_game 0 1 (.iload_n 1) 1 := by decide +kernel
theorem kX12_game_1 : zD cX12_game 1 2 (.iconst 0) 1 := by decide +kernel
theorem kX12_game_2 : zD cX12_game 2 3 (.iconst 1) 1 := by decide +kernel
theorem kX12_game_3 : zD cX12_game 3 6 (.invokestatic 53) 3 := by decide +kernel
theorem kX12_game_6 : zB cX12_game 6 9 11 (.ifCond .ne 5) 5 := by decide +kernel
theorem kX12_game_9 : zD cX12_game 9 10 (.iconst (-1)) 1 := by decide +kernel
theorem kX12_game_10 : zD cX12_game 10 11 (.ireturn) 1 := by decide +kernel
theorem kX12_game_11 : zD cX12_game 11 12 (.aload_n 0) 1 := by decide +kernel
theorem kX12_game_12 : zD cX12_game 12 13 (.iconst 1) 1 := by decide +kernel
theorem kX12_game_13 : zD cX12_game 13 16 (.invokevirtual 172) 3 := by decide +kernel
theorem kX12_game_16 : zD cX12_game 16 17 (.iload_n 1) 1 := by decide +kernel
theorem kX12_game_17 : zB cX12_game 17 20 34 (.ifCond .ne 17) 17 := by decide +kernel
theorem kX12_game_20 : zD cX12_game 20 21 (.aload_n 0) 1 := by decide +kernel
theorem kX12_game_21 : zD cX12_game 21 24 (.getfield 25) 3 := by decide +kernel
theorem kX12_game_24 : zD cX12_game 24 25 (.aload_n 0) 1 := by decide +kernel
theorem kX12_game_25 : zD cX12_game 25 28 (.getfield 9) 3 := by decide +kernel
theorem kX12_game_28 : zD cX12_game 28 29 (.iconst 0) 1 := by decide +kernel
theorem kX12_game_29 : zD cX12_game 29 30 (.iaload) 1 := by decide +kernel
theorem kX12_game_30 : zD cX12_game 30 31 (.iaload) 1 := by decide +kernel
theorem kX12_game_31 : zB cX12_game 31 34 39 (.goto 8) 8 := by decide +kernel
theorem kX12_game_34 : zD cX12_game 34 35 (.aload_n 0) 1 := by decide +kernel
theorem kX12_game_35 : zD cX12_game 35 36 (.iconst 1) 1 := by decide +kernel
theorem kX12_game_36 : zD cX12_game 36 39 (.invokevirtual 176) 3 := by decide +kernel
theorem kX12_game_39 : zD cX12_game 39 40 (.ireturn) 1 := by decide +kernel
set_option maxRecDepth 10000 in
theorem wX12_game_0 {G : ZG} {d : Nat} {h : ZH} {Q : Option ZV → ZH → Prop} {x1 : Int32} 
  (H : (((0 : Int32) ≤ x1 ∧ x1 ≤ (1 : Int32)) → zC G (d + 8) mX12_finds [zr 5 0, zi 1] h (fun r2 h1 => r2 = none ∧ (¬ x1 = 0 → zC G (d + 8) mX12_firstTo [zr 5 0, zi 1] h1 (fun r4 h3 => ∃ y5 : Int32, r4 = some (zi y5) ∧ Q (some (zi y5)) h3)) ∧ (x1 = 0 → vp_in (h1.1 30 0 0) 4096 ∧ Q (some (zi (h1.1 35 0 (h1.1 30 0 0).toNatClampNeg))) h1))) ∧ (¬ ((0 : Int32) ≤ x1 ∧ x1 ≤ (1 : Int32)) → Q (some (zi (-1))) h)) :
  zT G (d + 9) mX12_game 0 [zr 5 0, zi x1] [] h Q := by
  refine zt_iload_n kX12_game_0 rfl ?_
  refine zt_iconst (v := 0) kX12_game_1 rfl ?_
  refine zt_iconst (v := 1) kX12_game_2 rfl ?_
  refine zt_cS (as := [zi x1, zi 0, zi 1]) kX12_game_3 sRX12_53 rfl (by simp) rfl (sX12_isIn _  ) (fun r h0 hq => ?_)
  obtain ⟨rfl, hh⟩ := hq
  replace hh := hh.symm
  subst hh
  refine zt_ifb_ne kX12_game_6 (fun c => ?_) (fun c => ?_)
  · replace H := H.1 c
    refine zt_aload_n kX12_game_11 rfl ?_
    refine zt_iconst (v := 1) kX12_game_12 rfl ?_
    refine zt_cV (as := [zi 1]) kX12_game_13 sRX12_172 rfl (by decide) rfl (by simp) rfl H (fun r2 h1 H => ?_)
    obtain ⟨rfl, H⟩ := H
    refine zt_iload_n kX12_game_16 rfl ?_
    refine zt_if_ne kX12_game_17 (fun c => ?_) (fun c => ?_)
    · replace H := H.1 c
      refine zt_aload_n kX12_game_34 rfl ?_
      refine zt_iconst (v := 1) kX12_game_35 rfl ?_
      refine zt_cV (as := [zi 1]) kX12_game_36 sRX12_176 rfl (by decide) rfl (by simp) rfl H (fun r4 h3 H => ?_)
      obtain ⟨y5, rfl, H⟩ := H
      exact zt_iret kX12_game_39 rfl H
    · replace H := H.2 c
      refine zt_aload_n kX12_game_20 rfl ?_
      refine zt_get (v := zr 35 0) kX12_game_21 fRX12_25 rfl (by decide) rfl ?_
      refine zt_aload_n kX12_game_24 rfl ?_
      refine zt_get (v := zr 30 0) kX12_game_25 fRX12_9 rfl (by decide) rfl ?_
      refine zt_iconst (v := 0) kX12_game_28 rfl ?_
      refine zt_ialdc 0 rfl kX12_game_29 rfl (by decide) (zvp_dec (by decide)) ?_
      obtain ⟨hv, H⟩ := H
      refine zt_iald kX12_game_30 rfl (by decide) hv ?_
      refine zt_goto kX12_game_31 ?_
      exact zt_iret kX12_game_39 rfl H
  · replace H := H.2 c
    refine zt_iconst (v := (-1)) kX12_game_9 rfl ?_
    exact zt_iret kX12_game_10 rfl H

theorem kX11_propsWanted_0 : zD cX11_propsWanted 0 1 (.aload_n 0) 1 := by decide +kernel
theorem kX11_propsWanted_1 : zD cX11_propsWanted 1 4 (.getfield 40) 3 := by decide +kernel
theorem kX11_propsWanted_4 : zD cX11_propsWanted 4 7 (.invokevirtual 210) 3 := by decide +kernel
theorem kX11_propsWanted_7 : zD cX11_propsWanted 7 8 (.ireturn) 1 := by decide +kernel
set_option maxRecDepth 10000 in
theorem wX11_propsWanted_0 {G : ZG} {d : Nat} {h : ZH} {Q : Option ZV → ZH → Prop}  
  (H : zC G (d + 7) mX3_fewestProps [zr 1 0] h (fun r2 h1 => ∃ y3 : Int32, r2 = some (zi y3) ∧ Q (some (zi y3)) h1)) :
  zT G (d + 8) mX11_propsWanted 0 [zr 0 0] [] h Q := by
  refine zt_aload_n kX11_propsWanted_0 rfl ?_
  refine zt_get (v := zr 1 0) kX11_propsWanted_1 fRX11_40 rfl (by decide) rfl ?_
  refine zt_cV (as := []) kX11_propsWanted_4 sRX11_210 rfl (by decide) rfl (by simp) rfl H (fun r2 h1 H => ?_)
  obtain ⟨y3, rfl, H⟩ := H
  exact zt_iret kX11_propsWanted_7 rfl H

theorem kX3_fewestProps_0 : zD cX3_fewestProps 0 1 (.aload_n 0) 1 := by decide +kernel
theorem kX3_fewestProps_1 : zD cX3_fewestProps 1 4 (.getfield 12) 3 := by decide +kernel
theorem kX3_fewestProps_4 : zD cX3_fewestProps 4 7 (.getfield 49) 3 := by decide +kernel
theorem kX3_fewestProps_7 : zD cX3_fewestProps 7 8 (.aload_n 0) 1 := by decide +kernel
theorem kX3_fewestProps_8 : zD cX3_fewestProps 8 11 (.invokevirtual 68) 3 := by decide +kernel
theorem kX3_fewestProps_11 : zD cX3_fewestProps 11 12 (.iconst (-1)) 1 := by decide +kernel
theorem kX3_fewestProps_12 : zD cX3_fewestProps 12 13 (.ixor) 1 := by decide +kernel
theorem kX3_fewestProps_13 : zD cX3_fewestProps 13 14 (.iand) 1 := by decide +kernel
theorem kX3_fewestProps_14 : zD cX3_fewestProps 14 15 (.istore_n 1) 1 := by decide +kernel
theorem kX3_fewestProps_15 : zD cX3_fewestProps 15 16 (.iconst 0) 1 := by decide +kernel
theorem kX3_fewestProps_16 : zD cX3_fewestProps 16 17 (.istore_n 2) 1 := by decide +kernel
theorem kX3_fewestProps_17 : zD cX3_fewestProps 17 18 (.iconst 0) 1 := by decide +kernel
theorem kX3_fewestProps_18 : zD cX3_fewestProps 18 19 (.istore_n 3) 1 := by decide +kernel
theorem kX3_fewestProps_19 : zD cX3_fewestProps 19 20 (.iload_n 3) 1 := by decide +kernel
theorem kX3_fewestProps_20 : zD cX3_fewestProps 20 23 (.sipush 794) 3 := by decide +kernel
theorem kX3_fewestProps_23 : zB cX3_fewestProps 23 26 80 (.if_icmp .ge 57) 57 := by decide +kernel
theorem kX3_fewestProps_26 : zD cX3_fewestProps 26 27 (.iload_n 2) 1 := by decide +kernel
theorem kX3_fewestProps_27 : zD cX3_fewestProps 27 28 (.aload_n 0) 1 := by decide +kernel
theorem kX3_fewestProps_28 : zD cX3_fewestProps 28 31 (.getfield 12) 3 := by decide +kernel
theorem kX3_fewestProps_31 : zD cX3_fewestProps 31 34 (.getfield 128) 3 := by decide +kernel
theorem kX3_fewestProps_34 : zD cX3_fewestProps 34 35 (.iand) 1 := by decide +kernel
theorem kX3_fewestProps_35 : zB cX3_fewestProps 35 38 42 (.ifCond .ne 7) 7 := by decide +kernel
theorem kX3_fewestProps_38 : zD cX3_fewestProps 38 39 (.iconst 1) 1 := by decide +kernel
theorem kX3_fewestProps_39 : zB cX3_fewestProps 39 42 43 (.goto 4) 4 := by decide +kernel
theorem kX3_fewestProps_42 : zD cX3_fewestProps 42 43 (.iconst 0) 1 := by decide +kernel
theorem kX3_fewestProps_43 : zD cX3_fewestProps 43 45 (.istore 4) 2 := by decide +kernel
theorem kX3_fewestProps_45 : zD cX3_fewestProps 45 47 (.iload 4) 2 := by decide +kernel
theorem kX3_fewestProps_47 : zB cX3_fewestProps 47 50 69 (.ifCond .eq 22) 22 := by decide +kernel
theorem kX3_fewestProps_50 : zD cX3_fewestProps 50 51 (.aload_n 0) 1 := by decide +kernel
theorem kX3_fewestProps_51 : zD cX3_fewestProps 51 52 (.iload_n 1) 1 := by decide +kernel
theorem kX3_fewestProps_52 : zD cX3_fewestProps 52 53 (.aload_n 0) 1 := by decide +kernel
theorem kX3_fewestProps_53 : zD cX3_fewestProps 53 56 (.getfield 12) 3 := by decide +kernel
theorem kX3_fewestProps_56 : zD cX3_fewestProps 56 59 (.getfield 128) 3 := by decide +kernel
theorem kX3_fewestProps_59 : zD cX3_fewestProps 59 60 (.iload_n 2) 1 := by decide +kernel
theorem kX3_fewestProps_60 : zD cX3_fewestProps 60 61 (.ior) 1 := by decide +kernel
theorem kX3_fewestProps_61 : zD cX3_fewestProps 61 64 (.invokevirtual 131) 3 := by decide +kernel
theorem kX3_fewestProps_64 : zB cX3_fewestProps 64 67 69 (.ifCond .eq 5) 5 := by decide +kernel
theorem kX3_fewestProps_67 : zD cX3_fewestProps 67 68 (.iload_n 2) 1 := by decide +kernel
theorem kX3_fewestProps_68 : zD cX3_fewestProps 68 69 (.ireturn) 1 := by decide +kernel
theorem kX3_fewestProps_69 : zD cX3_fewestProps 69 70 (.iload_n 2) 1 := by decide +kernel
theorem kX3_fewestProps_70 : zD cX3_fewestProps 70 73 (.invokestatic 72) 3 := by decide +kernel
theorem kX3_fewestProps_73 : zD cX3_fewestProps 73 74 (.istore_n 2) 1 := by decide +kernel
theorem kX3_fewestProps_74 : zD cX3_fewestProps 74 77 (.iinc 3 1) 3 := by decide +kernel
theorem kX3_fewestProps_77 : zB cX3_fewestProps 77 80 19 (.goto (-58)) (-58) := by decide +kernel
theorem kX3_fewestProps_80 : zD cX3_fewestProps 80 82 (.bipush (-4)) 2 := by decide +kernel
theorem kX3_fewestProps_82 : zD cX3_fewestProps 82 83 (.ireturn) 1 := by decide +kernel
set_option maxRecDepth 10000 in
theorem wX3_fewestProps_0 {G : ZG} {d : Nat} {h : ZH} {Q : Option ZV → ZH → Prop}  
  (H : zC G (d + 6) mX3_safeOnes [zr 1 0] h (fun r2 h1 => ∃ y3 : Int32, r2 = some (zi y3) ∧ zT G (d + 7) mX3_fewestProps 19 [zr 1 0, zi ((h.1 2 0 6) &&& (y3 ^^^ (-1))), zi 0, zi 0, zu] [] h1 Q)) :
  zT G (d + 7) mX3_fewestProps 0 [zr 1 0, zu, zu, zu, zu] [] h Q := by
  refine zt_aload_n kX3_fewestProps_0 rfl ?_
  refine zt_get (v := zr 2 0) kX3_fewestProps_1 fRX3_12 rfl (by decide) rfl ?_
  refine zt_get (v := zi (h.1 2 0 6)) kX3_fewestProps_4 fRX3_49 rfl (by decide) rfl ?_
  refine zt_aload_n kX3_fewestProps_7 rfl ?_
  refine zt_cV (as := []) kX3_fewestProps_8 sRX3_68 rfl (by decide) rfl (by simp) rfl H (fun r2 h1 H => ?_)
  obtain ⟨y3, rfl, H⟩ := H
  refine zt_iconst (v := (-1)) kX3_fewestProps_11 rfl ?_
  refine zt_ixor kX3_fewestProps_12 ?_
  refine zt_iand kX3_fewestProps_13 ?_
  refine zt_istore_n (L' := [zr 1 0, zi ((h.1 2 0 6) &&& (y3 ^^^ (-1))), zu, zu, zu]) kX3_fewestProps_14 (by decide) rfl ?_
  refine zt_iconst (v := 0) kX3_fewestProps_15 rfl ?_
  refine zt_istore_n (L' := [zr 1 0, zi ((h.1 2 0 6) &&& (y3 ^^^ (-1))), zi 0, zu, zu]) kX3_fewestProps_16 (by decide) rfl ?_
  refine zt_iconst (v := 0) kX3_fewestProps_17 rfl ?_
  refine zt_istore_n (L' := [zr 1 0, zi ((h.1 2 0 6) &&& (y3 ^^^ (-1))), zi 0, zi 0, zu]) kX3_fewestProps_18 (by decide) rfl ?_
  exact H

set_option maxRecDepth 10000 in
theorem wX3_fewestProps_19 {G : ZG} {d : Nat} {h : ZH} {Q : Option ZV → ZH → Prop} {x1 : Int32} {x2 : Int32} {x3 : Int32} 
  (H : (794 ≤ x3 → Q (some (zi (-4))) h) ∧ (¬ 794 ≤ x3 → (¬ (x2 &&& (h.1 2 0 7)) = 0 → zT G (d + 7) mX3_fewestProps 19 [zr 1 0, zi x1, zi (nextI x2), zi (x3 + 1), zu] [] h Q) ∧ ((x2 &&& (h.1 2 0 7)) = 0 → zC G (d + 6) mX3_areSafe [zr 1 0, zi x1, zi ((h.1 2 0 7) ||| x2)] h (fun r2 h1 => ∃ y3 : Int32, r2 = some (zi y3) ∧ (y3 = 0 → zT G (d + 7) mX3_fewestProps 19 [zr 1 0, zi x1, zi (nextI x2), zi (x3 + 1), zu] [] h1 Q) ∧ (¬ y3 = 0 → Q (some (zi x2)) h1))))) :
  zT G (d + 7) mX3_fewestProps 19 [zr 1 0, zi x1, zi x2, zi x3, zu] [] h Q := by
  refine zt_iload_n kX3_fewestProps_19 rfl ?_
  refine zt_sipush (v := 794) kX3_fewestProps_20 rfl ?_
  refine zt_icmp_ge kX3_fewestProps_23 (fun c => ?_) (fun c => ?_)
  · replace H := H.1 c
    refine zt_bipush (v := (-4)) kX3_fewestProps_80 rfl ?_
    exact zt_iret kX3_fewestProps_82 rfl H
  · replace H := H.2 c
    refine zt_iload_n kX3_fewestProps_26 rfl ?_
    refine zt_aload_n kX3_fewestProps_27 rfl ?_
    refine zt_get (v := zr 2 0) kX3_fewestProps_28 fRX3_12 rfl (by decide) rfl ?_
    refine zt_get (v := zi (h.1 2 0 7)) kX3_fewestProps_31 fRX3_128 rfl (by decide) rfl ?_
    refine zt_iand kX3_fewestProps_34 ?_
    refine zt_if_ne kX3_fewestProps_35 (fun c => ?_) (fun c => ?_)
    · replace H := H.1 c
      refine zt_iconst (v := 0) kX3_fewestProps_42 rfl ?_
      refine zt_istore (L' := [zr 1 0, zi x1, zi x2, zi x3, zi 0]) kX3_fewestProps_43 (by decide) rfl ?_
      refine zt_iload kX3_fewestProps_45 rfl ?_
      refine zt_if_eq kX3_fewestProps_47 (fun _ => ?_) (fun c => absurd c (by decide))
      refine zt_iload_n kX3_fewestProps_69 rfl ?_
      refine zt_cS (as := [zi x2]) kX3_fewestProps_70 sRX3_72 rfl (by simp) rfl (sX3_nextChoice _  ) (fun r h0 hq => ?_)
      obtain ⟨rfl, hh⟩ := hq
      replace hh := hh.symm
      subst hh
      refine zt_istore_n (L' := [zr 1 0, zi x1, zi (nextI x2), zi x3, zi 0]) kX3_fewestProps_73 (by decide) rfl ?_
      refine zt_iinc (v := (x3 + 1)) (L' := [zr 1 0, zi x1, zi (nextI x2), zi (x3 + 1), zi 0]) kX3_fewestProps_74 rfl rfl (by decide) rfl ?_
      refine zt_goto kX3_fewestProps_77 ?_
      exact zt_sub [zr 1 0, zi x1, zi (nextI x2), zi (x3 + 1), zu] ⟨rfl, ⟨rfl, ⟨rfl, ⟨rfl, trivial⟩⟩⟩⟩ H
    · replace H := H.2 c
      refine zt_iconst (v := 1) kX3_fewestProps_38 rfl ?_
      refine zt_goto kX3_fewestProps_39 ?_
      refine zt_istore (L' := [zr 1 0, zi x1, zi x2, zi x3, zi 1]) kX3_fewestProps_43 (by decide) rfl ?_
      refine zt_iload kX3_fewestProps_45 rfl ?_
      refine zt_if_eq kX3_fewestProps_47 (fun c => absurd c (by decide)) (fun _ => ?_)
      refine zt_aload_n kX3_fewestProps_50 rfl ?_
      refine zt_iload_n kX3_fewestProps_51 rfl ?_
      refine zt_aload_n kX3_fewestProps_52 rfl ?_
      refine zt_get (v := zr 2 0) kX3_fewestProps_53 fRX3_12 rfl (by decide) rfl ?_
      refine zt_get (v := zi (h.1 2 0 7)) kX3_fewestProps_56 fRX3_128 rfl (by decide) rfl ?_
      refine zt_iload_n kX3_fewestProps_59 rfl ?_
      refine zt_ior kX3_fewestProps_60 ?_
      refine zt_cV (as := [zi x1, zi ((h.1 2 0 7) ||| x2)]) kX3_fewestProps_61 sRX3_131 rfl (by decide) rfl (by simp) rfl H (fun r2 h1 H => ?_)
      obtain ⟨y3, rfl, H⟩ := H
      refine zt_if_eq kX3_fewestProps_64 (fun c => ?_) (fun c => ?_)
      · replace H := H.1 c
        refine zt_iload_n kX3_fewestProps_69 rfl ?_
        refine zt_cS (as := [zi x2]) kX3_fewestProps_70 sRX3_72 rfl (by simp) rfl (sX3_nextChoice _  ) (fun r h0 hq => ?_)
        obtain ⟨rfl, hh⟩ := hq
        replace hh := hh.symm
        subst hh
        refine zt_istore_n (L' := [zr 1 0, zi x1, zi (nextI x2), zi x3, zi 1]) kX3_fewestProps_73 (by decide) rfl ?_
        refine zt_iinc (v := (x3 + 1)) (L' := [zr 1 0, zi x1, zi (nextI x2), zi (x3 + 1), zi 1]) kX3_fewestProps_74 rfl rfl (by decide) rfl ?_
        refine zt_goto kX3_fewestProps_77 ?_
        exact zt_sub [zr 1 0, zi x1, zi (nextI x2), zi (x3 + 1), zu] ⟨rfl, ⟨rfl, ⟨rfl, ⟨rfl, trivial⟩⟩⟩⟩ H
      · replace H := H.2 c
        refine zt_iload_n kX3_fewestProps_67 rfl ?_
        exact zt_iret kX3_fewestProps_68 rfl H

theorem kX3_areSafe_0 : zD cX3_areSafe 0 1 (.iconst 0) 1 := by decide +kernel
theorem kX3_areSafe_1 : zD cX3_areSafe 1 2 (.istore_n 3) 1 := by decide +kernel
theorem kX3_areSafe_2 : zD cX3_areSafe 2 3 (.iload_n 3) 1 := by decide +kernel
theorem kX3_areSafe_3 : zD cX3_areSafe 3 5 (.bipush 12) 2 := by decide +kernel
theorem kX3_areSafe_5 : zB cX3_areSafe 5 8 60 (.if_icmp .ge 55) 55 := by decide +kernel
theorem kX3_areSafe_8 : zD cX3_areSafe 8 9 (.iload_n 1) 1 := by decide +kernel
theorem kX3_areSafe_9 : zD cX3_areSafe 9 10 (.iload_n 3) 1 := by decide +kernel
theorem kX3_areSafe_10 : zD cX3_areSafe 10 11 (.ishr) 1 := by decide +kernel
theorem kX3_areSafe_11 : zD cX3_areSafe 11 12 (.iconst 1) 1 := by decide +kernel
theorem kX3_areSafe_12 : zD cX3_areSafe 12 13 (.iand) 1 := by decide +kernel
theorem kX3_areSafe_13 : zB cX3_areSafe 13 16 20 (.ifCond .eq 7) 7 := by decide +kernel
theorem kX3_areSafe_16 : zD cX3_areSafe 16 17 (.iconst 1) 1 := by decide +kernel
theorem kX3_areSafe_17 : zB cX3_areSafe 17 20 21 (.goto 4) 4 := by decide +kernel
theorem kX3_areSafe_20 : zD cX3_areSafe 20 21 (.iconst 0) 1 := by decide +kernel
theorem kX3_areSafe_21 : zD cX3_areSafe 21 23 (.istore 4) 2 := by decide +kernel
theorem kX3_areSafe_23 : zD cX3_areSafe 23 25 (.iload 4) 2 := by decide +kernel
theorem kX3_areSafe_25 : zB cX3_areSafe 25 28 54 (.ifCond .eq 29) 29 := by decide +kernel
theorem kX3_areSafe_28 : zD cX3_areSafe 28 29 (.aload_n 0) 1 := by decide +kernel
theorem kX3_areSafe_29 : zD cX3_areSafe 29 32 (.getfield 12) 3 := by decide +kernel
theorem kX3_areSafe_32 : zD cX3_areSafe 32 33 (.aload_n 0) 1 := by decide +kernel
theorem kX3_areSafe_33 : zD cX3_areSafe 33 36 (.getfield 12) 3 := by decide +kernel
theorem kX3_areSafe_36 : zD cX3_areSafe 36 39 (.getfield 49) 3 := by decide +kernel
theorem kX3_areSafe_39 : zD cX3_areSafe 39 40 (.iconst 1) 1 := by decide +kernel
theorem kX3_areSafe_40 : zD cX3_areSafe 40 41 (.iload_n 3) 1 := by decide +kernel
theorem kX3_areSafe_41 : zD cX3_areSafe 41 42 (.ishl) 1 := by decide +kernel
theorem kX3_areSafe_42 : zD cX3_areSafe 42 43 (.iconst (-1)) 1 := by decide +kernel
theorem kX3_areSafe_43 : zD cX3_areSafe 43 44 (.ixor) 1 := by decide +kernel
theorem kX3_areSafe_44 : zD cX3_areSafe 44 45 (.iand) 1 := by decide +kernel
theorem kX3_areSafe_45 : zD cX3_areSafe 45 46 (.iload_n 2) 1 := by decide +kernel
theorem kX3_areSafe_46 : zD cX3_areSafe 46 49 (.invokevirtual 134) 3 := by decide +kernel
theorem kX3_areSafe_49 : zB cX3_areSafe 49 52 54 (.ifCond .eq 5) 5 := by decide +kernel
theorem kX3_areSafe_52 : zD cX3_areSafe 52 53 (.iconst 0) 1 := by decide +kernel
theorem kX3_areSafe_53 : zD cX3_areSafe 53 54 (.ireturn) 1 := by decide +kernel
theorem kX3_areSafe_54 : zD cX3_areSafe 54 57 (.iinc 3 1) 3 := by decide +kernel
theorem kX3_areSafe_57 : zB cX3_areSafe 57 60 2 (.goto (-55)) (-55) := by decide +kernel
theorem kX3_areSafe_60 : zD cX3_areSafe 60 61 (.iconst 1) 1 := by decide +kernel
theorem kX3_areSafe_61 : zD cX3_areSafe 61 62 (.ireturn) 1 := by decide +kernel
set_option maxRecDepth 10000 in
theorem wX3_areSafe_0 {G : ZG} {d : Nat} {h : ZH} {Q : Option ZV → ZH → Prop} {x1 : Int32} {x2 : Int32} 
  (H : zT G (d + 3) mX3_areSafe 2 [zr 1 0, zi x1, zi x2, zi 0, zu] [] h Q) :
  zT G (d + 3) mX3_areSafe 0 [zr 1 0, zi x1, zi x2, zu, zu] [] h Q := by
  refine zt_iconst (v := 0) kX3_areSafe_0 rfl ?_
  refine zt_istore_n (L' := [zr 1 0, zi x1, zi x2, zi 0, zu]) kX3_areSafe_1 (by decide) rfl ?_
  exact H

set_option maxRecDepth 10000 in
theorem wX3_areSafe_2 {G : ZG} {d : Nat} {h : ZH} {Q : Option ZV → ZH → Prop} {x1 : Int32} {x2 : Int32} {x3 : Int32} 
  (H : (12 ≤ x3 → Q (some (zi 1)) h) ∧ (¬ 12 ≤ x3 → (((x1 >>> (x3 &&& 31)) &&& 1) = 0 → zT G (d + 3) mX3_areSafe 2 [zr 1 0, zi x1, zi x2, zi (x3 + 1), zu] [] h Q) ∧ (¬ ((x1 >>> (x3 &&& 31)) &&& 1) = 0 → zC G (d + 2) mX4_looseIn [zr 2 0, zi ((h.1 2 0 6) &&& (((1 : Int32) <<< (x3 &&& 31)) ^^^ (-1))), zi x2] h (fun r2 h1 => ∃ y3 : Int32, r2 = some (zi y3) ∧ (y3 = 0 → zT G (d + 3) mX3_areSafe 2 [zr 1 0, zi x1, zi x2, zi (x3 + 1), zu] [] h1 Q) ∧ (¬ y3 = 0 → Q (some (zi 0)) h1))))) :
  zT G (d + 3) mX3_areSafe 2 [zr 1 0, zi x1, zi x2, zi x3, zu] [] h Q := by
  refine zt_iload_n kX3_areSafe_2 rfl ?_
  refine zt_bipush (v := 12) kX3_areSafe_3 rfl ?_
  refine zt_icmp_ge kX3_areSafe_5 (fun c => ?_) (fun c => ?_)
  · replace H := H.1 c
    refine zt_iconst (v := 1) kX3_areSafe_60 rfl ?_
    exact zt_zret kX3_areSafe_61 rfl (by decide) H
  · replace H := H.2 c
    refine zt_iload_n kX3_areSafe_8 rfl ?_
    refine zt_iload_n kX3_areSafe_9 rfl ?_
    refine zt_ishr kX3_areSafe_10 ?_
    refine zt_iconst (v := 1) kX3_areSafe_11 rfl ?_
    refine zt_iand kX3_areSafe_12 ?_
    refine zt_if_eq kX3_areSafe_13 (fun c => ?_) (fun c => ?_)
    · replace H := H.1 c
      refine zt_iconst (v := 0) kX3_areSafe_20 rfl ?_
      refine zt_istore (L' := [zr 1 0, zi x1, zi x2, zi x3, zi 0]) kX3_areSafe_21 (by decide) rfl ?_
      refine zt_iload kX3_areSafe_23 rfl ?_
      refine zt_if_eq kX3_areSafe_25 (fun _ => ?_) (fun c => absurd c (by decide))
      refine zt_iinc (v := (x3 + 1)) (L' := [zr 1 0, zi x1, zi x2, zi (x3 + 1), zi 0]) kX3_areSafe_54 rfl rfl (by decide) rfl ?_
      refine zt_goto kX3_areSafe_57 ?_
      exact zt_sub [zr 1 0, zi x1, zi x2, zi (x3 + 1), zu] ⟨rfl, ⟨rfl, ⟨rfl, ⟨rfl, trivial⟩⟩⟩⟩ H
    · replace H := H.2 c
      refine zt_iconst (v := 1) kX3_areSafe_16 rfl ?_
      refine zt_goto kX3_areSafe_17 ?_
      refine zt_istore (L' := [zr 1 0, zi x1, zi x2, zi x3, zi 1]) kX3_areSafe_21 (by decide) rfl ?_
      refine zt_iload kX3_areSafe_23 rfl ?_
      refine zt_if_eq kX3_areSafe_25 (fun c => absurd c (by decide)) (fun _ => ?_)
      refine zt_aload_n kX3_areSafe_28 rfl ?_
      refine zt_get (v := zr 2 0) kX3_areSafe_29 fRX3_12 rfl (by decide) rfl ?_
      refine zt_aload_n kX3_areSafe_32 rfl ?_
      refine zt_get (v := zr 2 0) kX3_areSafe_33 fRX3_12 rfl (by decide) rfl ?_
      refine zt_get (v := zi (h.1 2 0 6)) kX3_areSafe_36 fRX3_49 rfl (by decide) rfl ?_
      refine zt_iconst (v := 1) kX3_areSafe_39 rfl ?_
      refine zt_iload_n kX3_areSafe_40 rfl ?_
      refine zt_ishl kX3_areSafe_41 ?_
      refine zt_iconst (v := (-1)) kX3_areSafe_42 rfl ?_
      refine zt_ixor kX3_areSafe_43 ?_
      refine zt_iand kX3_areSafe_44 ?_
      refine zt_iload_n kX3_areSafe_45 rfl ?_
      refine zt_cV (as := [zi ((h.1 2 0 6) &&& (((1 : Int32) <<< (x3 &&& 31)) ^^^ (-1))), zi x2]) kX3_areSafe_46 sRX3_134 rfl (by decide) rfl (by simp) rfl H (fun r2 h1 H => ?_)
      obtain ⟨y3, rfl, H⟩ := H
      refine zt_if_eq kX3_areSafe_49 (fun c => ?_) (fun c => ?_)
      · replace H := H.1 c
        refine zt_iinc (v := (x3 + 1)) (L' := [zr 1 0, zi x1, zi x2, zi (x3 + 1), zi 1]) kX3_areSafe_54 rfl rfl (by decide) rfl ?_
        refine zt_goto kX3_areSafe_57 ?_
        exact zt_sub [zr 1 0, zi x1, zi x2, zi (x3 + 1), zu] ⟨rfl, ⟨rfl, ⟨rfl, ⟨rfl, trivial⟩⟩⟩⟩ H
      · replace H := H.2 c
        refine zt_iconst (v := 0) kX3_areSafe_52 rfl ?_
        exact zt_zret kX3_areSafe_53 rfl (by decide) H

theorem kX12_propsWanted_0 : zD cX12_propsWanted 0 1 (.aload_n 0) 1 := by decide +kernel
theorem kX12_propsWanted_1 : zD cX12_propsWanted 1 4 (.getfield 9) 3 := by decide +kernel
theorem kX12_propsWanted_4 : zD cX12_propsWanted 4 5 (.iconst 1) 1 := by decide +kernel
theorem kX12_propsWanted_5 : zD cX12_propsWanted 5 6 (.iaload) 1 := by decide +kernel
theorem kX12_propsWanted_6 : zD cX12_propsWanted 6 7 (.istore_n 1) 1 := by decide +kernel
theorem kX12_propsWanted_7 : zD cX12_propsWanted 7 9 (.bipush (-4)) 2 := by decide +kernel
theorem kX12_propsWanted_9 : zD cX12_propsWanted 9 10 (.istore_n 2) 1 := by decide +kernel
theorem kX12_propsWanted_10 : zD cX12_propsWanted 10 11 (.iconst 0) 1 := by decide +kernel
theorem kX12_propsWanted_11 : zD cX12_propsWanted 11 12 (.istore_n 3) 1 := by decide +kernel
theorem kX12_propsWanted_12 : zD cX12_propsWanted 12 13 (.iload_n 3) 1 := by decide +kernel
theorem kX12_propsWanted_13 : zD cX12_propsWanted 13 16 (.sipush 4096) 3 := by decide +kernel
theorem kX12_propsWanted_16 : zB cX12_propsWanted 16 19 87 (.if_icmp .ge 71) 71 := by decide +kernel
theorem kX12_propsWanted_19 : zD cX12_propsWanted 19 20 (.iload_n 3) 1 := by decide +kernel
theorem kX12_propsWanted_20 : zD cX12_propsWanted 20 21 (.iload_n 1) 1 := by decide +kernel
theorem kX12_propsWanted_21 : zD cX12_propsWanted 21 22 (.iand) 1 := by decide +kernel
theorem kX12_propsWanted_22 : zB cX12_propsWanted 22 25 81 (.ifCond .ne 59) 59 := by decide +kernel
theorem kX12_propsWanted_25 : zD cX12_propsWanted 25 26 (.iload_n 3) 1 := by decide +kernel
theorem kX12_propsWanted_26 : zD cX12_propsWanted 26 29 (.invokestatic 107) 3 := by decide +kernel
theorem kX12_propsWanted_29 : zD cX12_propsWanted 29 30 (.iconst 4) 1 := by decide +kernel
theorem kX12_propsWanted_30 : zB cX12_propsWanted 30 33 81 (.if_icmp .gt 51) 51 := by decide +kernel
theorem kX12_propsWanted_33 : zD cX12_propsWanted 33 34 (.iload_n 2) 1 := by decide +kernel
theorem kX12_propsWanted_34 : zB cX12_propsWanted 34 37 51 (.ifCond .lt 17) 17 := by decide +kernel
theorem kX12_propsWanted_37 : zD cX12_propsWanted 37 38 (.iload_n 3) 1 := by decide +kernel
theorem kX12_propsWanted_38 : zD cX12_propsWanted 38 41 (.invokestatic 107) 3 := by decide +kernel
theorem kX12_propsWanted_41 : zD cX12_propsWanted 41 42 (.iload_n 2) 1 := by decide +kernel
theorem kX12_propsWanted_42 : zD cX12_propsWanted 42 45 (.invokestatic 107) 3 := by decide +kernel
theorem kX12_propsWanted_45 : zB cX12_propsWanted 45 48 51 (.if_icmp .lt 6) 6 := by decide +kernel
theorem kX12_propsWanted_48 : zB cX12_propsWanted 48 51 81 (.goto 33) 33 := by decide +kernel
theorem kX12_propsWanted_51 : zD cX12_propsWanted 51 52 (.aload_n 0) 1 := by decide +kernel
theorem kX12_propsWanted_52 : zD cX12_propsWanted 52 55 (.getfield 9) 3 := by decide +kernel
theorem kX12_propsWanted_55 : zD cX12_propsWanted 55 56 (.iconst 1) 1 := by decide +kernel
theorem kX12_propsWanted_56 : zD cX12_propsWanted 56 57 (.iload_n 1) 1 := by decide +kernel
theorem kX12_propsWanted_57 : zD cX12_propsWanted 57 58 (.iload_n 3) 1 := by decide +kernel
theorem kX12_propsWanted_58 : zD cX12_propsWanted 58 59 (.ior) 1 := by decide +kernel
theorem kX12_propsWanted_59 : zD cX12_propsWanted 59 60 (.iastore) 1 := by decide +kernel
theorem kX12_propsWanted_60 : zD cX12_propsWanted 60 61 (.aload_n 0) 1 := by decide +kernel
theorem kX12_propsWanted_61 : zD cX12_propsWanted 61 62 (.aload_n 0) 1 := by decide +kernel
theorem kX12_propsWanted_62 : zD cX12_propsWanted 62 65 (.getfield 9) 3 := by decide +kernel
theorem kX12_propsWanted_65 : zD cX12_propsWanted 65 66 (.iconst 0) 1 := by decide +kernel
theorem kX12_propsWanted_66 : zD cX12_propsWanted 66 67 (.iaload) 1 := by decide +kernel
theorem kX12_propsWanted_67 : zD cX12_propsWanted 67 70 (.invokevirtual 166) 3 := by decide +kernel
theorem kX12_propsWanted_70 : zD cX12_propsWanted 70 71 (.aload_n 0) 1 := by decide +kernel
theorem kX12_propsWanted_71 : zD cX12_propsWanted 71 74 (.getfield 9) 3 := by decide +kernel
theorem kX12_propsWanted_74 : zD cX12_propsWanted 74 75 (.iconst 0) 1 := by decide +kernel
theorem kX12_propsWanted_75 : zD cX12_propsWanted 75 76 (.iaload) 1 := by decide +kernel
theorem kX12_propsWanted_76 : zB cX12_propsWanted 76 79 81 (.if_icmp .ne 5) 5 := by decide +kernel
theorem kX12_propsWanted_79 : zD cX12_propsWanted 79 80 (.iload_n 3) 1 := by decide +kernel
theorem kX12_propsWanted_80 : zD cX12_propsWanted 80 81 (.istore_n 2) 1 := by decide +kernel
theorem kX12_propsWanted_81 : zD cX12_propsWanted 81 84 (.iinc 3 1) 3 := by decide +kernel
theorem kX12_propsWanted_84 : zB cX12_propsWanted 84 87 12 (.goto (-72)) (-72) := by decide +kernel
theorem kX12_propsWanted_87 : zD cX12_propsWanted 87 88 (.aload_n 0) 1 := by decide +kernel
theorem kX12_propsWanted_88 : zD cX12_propsWanted 88 91 (.getfield 9) 3 := by decide +kernel
theorem kX12_propsWanted_91 : zD cX12_propsWanted 91 92 (.iconst 1) 1 := by decide +kernel
theorem kX12_propsWanted_92 : zD cX12_propsWanted 92 93 (.iload_n 1) 1 := by decide +kernel
theorem kX12_propsWanted_93 : zD cX12_propsWanted 93 94 (.iastore) 1 := by decide +kernel
theorem kX12_propsWanted_94 : zD cX12_propsWanted 94 95 (.iload_n 2) 1 := by decide +kernel
theorem kX12_propsWanted_95 : zD cX12_propsWanted 95 96 (.ireturn) 1 := by decide +kernel
set_option maxRecDepth 10000 in
theorem wX12_propsWanted_0 {G : ZG} {d : Nat} {h : ZH} {Q : Option ZV → ZH → Prop}  
  (H : zT G (d + 9) mX12_propsWanted 12 [zr 5 0, zi (h.1 30 0 1), zi (-4), zi 0] [] h Q) :
  zT G (d + 9) mX12_propsWanted 0 [zr 5 0, zu, zu, zu] [] h Q := by
  refine zt_aload_n kX12_propsWanted_0 rfl ?_
  refine zt_get (v := zr 30 0) kX12_propsWanted_1 fRX12_9 rfl (by decide) rfl ?_
  refine zt_iconst (v := 1) kX12_propsWanted_4 rfl ?_
  refine zt_ialdc 1 rfl kX12_propsWanted_5 rfl (by decide) (zvp_dec (by decide)) ?_
  refine zt_istore_n (L' := [zr 5 0, zi (h.1 30 0 1), zu, zu]) kX12_propsWanted_6 (by decide) rfl ?_
  refine zt_bipush (v := (-4)) kX12_propsWanted_7 rfl ?_
  refine zt_istore_n (L' := [zr 5 0, zi (h.1 30 0 1), zi (-4), zu]) kX12_propsWanted_9 (by decide) rfl ?_
  refine zt_iconst (v := 0) kX12_propsWanted_10 rfl ?_
  refine zt_istore_n (L' := [zr 5 0, zi (h.1 30 0 1), zi (-4), zi 0]) kX12_propsWanted_11 (by decide) rfl ?_
  exact H

set_option maxRecDepth 10000 in
theorem wX12_propsWanted_12 {G : ZG} {d : Nat} {h : ZH} {Q : Option ZV → ZH → Prop} {x1 : Int32} {x2 : Int32} {x3 : Int32} 
  (H : (4096 ≤ x3 → ∀ h1 : ZH, h1 = zs1 h 30 0 1 x1 → Q (some (zi x2)) h1) ∧ (¬ 4096 ≤ x3 → (¬ (x3 &&& x1) = 0 → zT G (d + 9) mX12_propsWanted 12 [zr 5 0, zi x1, zi x2, zi (x3 + 1)] [] h Q) ∧ ((x3 &&& x1) = 0 → (4 < (bitsI x3) → zT G (d + 9) mX12_propsWanted 12 [zr 5 0, zi x1, zi x2, zi (x3 + 1)] [] h Q) ∧ (¬ 4 < (bitsI x3) → (x2 < 0 → ∀ h2 : ZH, h2 = zs1 h 30 0 1 (x1 ||| x3) → zC G (d + 8) mX12_safeOf [zr 5 0, zi (h2.1 30 0 0)] h2 (fun r4 h3 => ∃ y5 : Int32, r4 = some (zi y5) ∧ (¬ y5 = (h3.1 30 0 0) → zT G (d + 9) mX12_propsWanted 12 [zr 5 0, zi x1, zi x2, zi (x3 + 1)] [] h3 Q) ∧ (y5 = (h3.1 30 0 0) → zT G (d + 9) mX12_propsWanted 12 [zr 5 0, zi x1, zi x3, zi (x3 + 1)] [] h3 Q))) ∧ (¬ x2 < 0 → ((bitsI x3) < (bitsI x2) → ∀ h6 : ZH, h6 = zs1 h 30 0 1 (x1 ||| x3) → zC G (d + 8) mX12_safeOf [zr 5 0, zi (h6.1 30 0 0)] h6 (fun r8 h7 => ∃ y9 : Int32, r8 = some (zi y9) ∧ (¬ y9 = (h7.1 30 0 0) → zT G (d + 9) mX12_propsWanted 12 [zr 5 0, zi x1, zi x2, zi (x3 + 1)] [] h7 Q) ∧ (y9 = (h7.1 30 0 0) → zT G (d + 9) mX12_propsWanted 12 [zr 5 0, zi x1, zi x3, zi (x3 + 1)] [] h7 Q))) ∧ (¬ (bitsI x3) < (bitsI x2) → zT G (d + 9) mX12_propsWanted 12 [zr 5 0, zi x1, zi x2, zi (x3 + 1)] [] h Q)))))) :
  zT G (d + 9) mX12_propsWanted 12 [zr 5 0, zi x1, zi x2, zi x3] [] h Q := by
  refine zt_iload_n kX12_propsWanted_12 rfl ?_
  refine zt_sipush (v := 4096) kX12_propsWanted_13 rfl ?_
  refine zt_icmp_ge kX12_propsWanted_16 (fun c => ?_) (fun c => ?_)
  · replace H := H.1 c
    refine zt_aload_n kX12_propsWanted_87 rfl ?_
    refine zt_get (v := zr 30 0) kX12_propsWanted_88 fRX12_9 rfl (by decide) rfl ?_
    refine zt_iconst (v := 1) kX12_propsWanted_91 rfl ?_
    refine zt_iload_n kX12_propsWanted_92 rfl ?_
    refine zt_iastc 1 rfl kX12_propsWanted_93 rfl (by decide) (zvp_dec (by decide)) ?_
    refine zt_heap (fun h1 eh1 => ?_)
    replace H := H h1 eh1
    refine zt_iload_n kX12_propsWanted_94 rfl ?_
    exact zt_iret kX12_propsWanted_95 rfl H
  · replace H := H.2 c
    refine zt_iload_n kX12_propsWanted_19 rfl ?_
    refine zt_iload_n kX12_propsWanted_20 rfl ?_
    refine zt_iand kX12_propsWanted_21 ?_
    refine zt_if_ne kX12_propsWanted_22 (fun c => ?_) (fun c => ?_)
    · replace H := H.1 c
      refine zt_iinc (v := (x3 + 1)) (L' := [zr 5 0, zi x1, zi x2, zi (x3 + 1)]) kX12_propsWanted_81 rfl rfl (by decide) rfl ?_
      refine zt_goto kX12_propsWanted_84 ?_
      exact H
    · replace H := H.2 c
      refine zt_iload_n kX12_propsWanted_25 rfl ?_
      refine zt_cS (as := [zi x3]) kX12_propsWanted_26 sRX12_107 rfl (by simp) rfl (sX12_bits _  ) (fun r h0 hq => ?_)
      obtain ⟨rfl, hh⟩ := hq
      replace hh := hh.symm
      subst hh
      refine zt_iconst (v := 4) kX12_propsWanted_29 rfl ?_
      refine zt_icmp_gt kX12_propsWanted_30 (fun c => ?_) (fun c => ?_)
      · replace H := H.1 c
        refine zt_iinc (v := (x3 + 1)) (L' := [zr 5 0, zi x1, zi x2, zi (x3 + 1)]) kX12_propsWanted_81 rfl rfl (by decide) rfl ?_
        refine zt_goto kX12_propsWanted_84 ?_
        exact H
      · replace H := H.2 c
        refine zt_iload_n kX12_propsWanted_33 rfl ?_
        refine zt_if_lt kX12_propsWanted_34 (fun c => ?_) (fun c => ?_)
        · replace H := H.1 c
          refine zt_aload_n kX12_propsWanted_51 rfl ?_
          refine zt_get (v := zr 30 0) kX12_propsWanted_52 fRX12_9 rfl (by decide) rfl ?_
          refine zt_iconst (v := 1) kX12_propsWanted_55 rfl ?_
          refine zt_iload_n kX12_propsWanted_56 rfl ?_
          refine zt_iload_n kX12_propsWanted_57 rfl ?_
          refine zt_ior kX12_propsWanted_58 ?_
          refine zt_iastc 1 rfl kX12_propsWanted_59 rfl (by decide) (zvp_dec (by decide)) ?_
          refine zt_heap (fun h2 eh2 => ?_)
          replace H := H h2 eh2
          refine zt_aload_n kX12_propsWanted_60 rfl ?_
          refine zt_aload_n kX12_propsWanted_61 rfl ?_
          refine zt_get (v := zr 30 0) kX12_propsWanted_62 fRX12_9 rfl (by decide) rfl ?_
          refine zt_iconst (v := 0) kX12_propsWanted_65 rfl ?_
          refine zt_ialdc 0 rfl kX12_propsWanted_66 rfl (by decide) (zvp_dec (by decide)) ?_
          refine zt_cV (as := [zi (h2.1 30 0 0)]) kX12_propsWanted_67 sRX12_166 rfl (by decide) rfl (by simp) rfl H (fun r4 h3 H => ?_)
          obtain ⟨y5, rfl, H⟩ := H
          refine zt_aload_n kX12_propsWanted_70 rfl ?_
          refine zt_get (v := zr 30 0) kX12_propsWanted_71 fRX12_9 rfl (by decide) rfl ?_
          refine zt_iconst (v := 0) kX12_propsWanted_74 rfl ?_
          refine zt_ialdc 0 rfl kX12_propsWanted_75 rfl (by decide) (zvp_dec (by decide)) ?_
          refine zt_icmp_ne kX12_propsWanted_76 (fun c => ?_) (fun c => ?_)
          · replace H := H.1 c
            refine zt_iinc (v := (x3 + 1)) (L' := [zr 5 0, zi x1, zi x2, zi (x3 + 1)]) kX12_propsWanted_81 rfl rfl (by decide) rfl ?_
            refine zt_goto kX12_propsWanted_84 ?_
            exact H
          · replace H := H.2 c
            refine zt_iload_n kX12_propsWanted_79 rfl ?_
            refine zt_istore_n (L' := [zr 5 0, zi x1, zi x3, zi x3]) kX12_propsWanted_80 (by decide) rfl ?_
            refine zt_iinc (v := (x3 + 1)) (L' := [zr 5 0, zi x1, zi x3, zi (x3 + 1)]) kX12_propsWanted_81 rfl rfl (by decide) rfl ?_
            refine zt_goto kX12_propsWanted_84 ?_
            exact H
        · replace H := H.2 c
          refine zt_iload_n kX12_propsWanted_37 rfl ?_
          refine zt_cS (as := [zi x3]) kX12_propsWanted_38 sRX12_107 rfl (by simp) rfl (sX12_bits _  ) (fun r h0 hq => ?_)
          obtain ⟨rfl, hh⟩ := hq
          replace hh := hh.symm
          subst hh
          refine zt_iload_n kX12_propsWanted_41 rfl ?_
          refine zt_cS (as := [zi x2]) kX12_propsWanted_42 sRX12_107 rfl (by simp) rfl (sX12_bits _  ) (fun r h0 hq => ?_)
          obtain ⟨rfl, hh⟩ := hq
          replace hh := hh.symm
          subst hh
          refine zt_icmp_lt kX12_propsWanted_45 (fun c => ?_) (fun c => ?_)
          · replace H := H.1 c
            refine zt_aload_n kX12_propsWanted_51 rfl ?_
            refine zt_get (v := zr 30 0) kX12_propsWanted_52 fRX12_9 rfl (by decide) rfl ?_
            refine zt_iconst (v := 1) kX12_propsWanted_55 rfl ?_
            refine zt_iload_n kX12_propsWanted_56 rfl ?_
            refine zt_iload_n kX12_propsWanted_57 rfl ?_
            refine zt_ior kX12_propsWanted_58 ?_
            refine zt_iastc 1 rfl kX12_propsWanted_59 rfl (by decide) (zvp_dec (by decide)) ?_
            refine zt_heap (fun h6 eh6 => ?_)
            replace H := H h6 eh6
            refine zt_aload_n kX12_propsWanted_60 rfl ?_
            refine zt_aload_n kX12_propsWanted_61 rfl ?_
            refine zt_get (v := zr 30 0) kX12_propsWanted_62 fRX12_9 rfl (by decide) rfl ?_
            refine zt_iconst (v := 0) kX12_propsWanted_65 rfl ?_
            refine zt_ialdc 0 rfl kX12_propsWanted_66 rfl (by decide) (zvp_dec (by decide)) ?_
            refine zt_cV (as := [zi (h6.1 30 0 0)]) kX12_propsWanted_67 sRX12_166 rfl (by decide) rfl (by simp) rfl H (fun r8 h7 H => ?_)
            obtain ⟨y9, rfl, H⟩ := H
            refine zt_aload_n kX12_propsWanted_70 rfl ?_
            refine zt_get (v := zr 30 0) kX12_propsWanted_71 fRX12_9 rfl (by decide) rfl ?_
            refine zt_iconst (v := 0) kX12_propsWanted_74 rfl ?_
            refine zt_ialdc 0 rfl kX12_propsWanted_75 rfl (by decide) (zvp_dec (by decide)) ?_
            refine zt_icmp_ne kX12_propsWanted_76 (fun c => ?_) (fun c => ?_)
            · replace H := H.1 c
              refine zt_iinc (v := (x3 + 1)) (L' := [zr 5 0, zi x1, zi x2, zi (x3 + 1)]) kX12_propsWanted_81 rfl rfl (by decide) rfl ?_
              refine zt_goto kX12_propsWanted_84 ?_
              exact H
            · replace H := H.2 c
              refine zt_iload_n kX12_propsWanted_79 rfl ?_
              refine zt_istore_n (L' := [zr 5 0, zi x1, zi x3, zi x3]) kX12_propsWanted_80 (by decide) rfl ?_
              refine zt_iinc (v := (x3 + 1)) (L' := [zr 5 0, zi x1, zi x3, zi (x3 + 1)]) kX12_propsWanted_81 rfl rfl (by decide) rfl ?_
              refine zt_goto kX12_propsWanted_84 ?_
              exact H
          · replace H := H.2 c
            refine zt_goto kX12_propsWanted_48 ?_
            refine zt_iinc (v := (x3 + 1)) (L' := [zr 5 0, zi x1, zi x2, zi (x3 + 1)]) kX12_propsWanted_81 rfl rfl (by decide) rfl ?_
            refine zt_goto kX12_propsWanted_84 ?_
            exact H

theorem kX11_bombs_0 : zD cX11_bombs 0 1 (.iload_n 1) 1 := by decide +kernel
theorem kX11_bombs_1 : zD cX11_bombs 1 2 (.iconst 2) 1 := by decide +kernel
theorem kX11_bombs_2 : zB cX11_bombs 2 5 32 (.if_icmp .lt 30) 30 := by decide +kernel
theorem kX11_bombs_5 : zD cX11_bombs 5 6 (.iload_n 1) 1 := by decide +kernel
theorem kX11_bombs_6 : zD cX11_bombs 6 8 (.bipush 10) 2 := by decide +kernel
theorem kX11_bombs_8 : zB cX11_bombs 8 11 32 (.if_icmp .gt 24) 24 := by decide +kernel
theorem kX11_bombs_11 : zD cX11_bombs 11 12 (.iload_n 2) 1 := by decide +kernel
theorem kX11_bombs_12 : zB cX11_bombs 12 15 32 (.ifCond .lt 20) 20 := by decide +kernel
theorem kX11_bombs_15 : zD cX11_bombs 15 16 (.iload_n 2) 1 := by decide +kernel
theorem kX11_bombs_16 : zD cX11_bombs 16 18 (.bipush 12) 2 := by decide +kernel
theorem kX11_bombs_18 : zB cX11_bombs 18 21 32 (.if_icmp .gt 14) 14 := by decide +kernel
theorem kX11_bombs_21 : zD cX11_bombs 21 22 (.iload_n 3) 1 := by decide +kernel
theorem kX11_bombs_22 : zD cX11_bombs 22 25 (.invokestatic 150) 3 := by decide +kernel
theorem kX11_bombs_25 : zB cX11_bombs 25 28 32 (.ifCond .eq 7) 7 := by decide +kernel
theorem kX11_bombs_28 : zD cX11_bombs 28 29 (.iconst 1) 1 := by decide +kernel
theorem kX11_bombs_29 : zB cX11_bombs 29 32 33 (.goto 4) 4 := by decide +kernel
theorem kX11_bombs_32 : zD cX11_bombs 32 33 (.iconst 0) 1 := by decide +kernel
theorem kX11_bombs_33 : zD cX11_bombs 33 35 (.istore 4) 2 := by decide +kernel
theorem kX11_bombs_35 : zD cX11_bombs 35 37 (.iload 4) 2 := by decide +kernel
theorem kX11_bombs_37 : zB cX11_bombs 37 40 44 (.ifCond .ne 7) 7 := by decide +kernel
theorem kX11_bombs_40 : zD cX11_bombs 40 43 (.ldc2_w 185) 3 := by decide +kernel
theorem kX11_bombs_43 : zD cX11_bombs 43 44 (.lreturn) 1 := by decide +kernel
theorem kX11_bombs_44 : zD cX11_bombs 44 45 (.aload_n 0) 1 := by decide +kernel
theorem kX11_bombs_45 : zD cX11_bombs 45 48 (.getfield 40) 3 := by decide +kernel
theorem kX11_bombs_48 : zD cX11_bombs 48 49 (.iload_n 2) 1 := by decide +kernel
theorem kX11_bombs_49 : zD cX11_bombs 49 50 (.iload_n 1) 1 := by decide +kernel
theorem kX11_bombs_50 : zD cX11_bombs 50 53 (.invokevirtual 187) 3 := by decide +kernel
theorem kX11_bombs_53 : zD cX11_bombs 53 55 (.lstore 5) 2 := by decide +kernel
theorem kX11_bombs_55 : zD cX11_bombs 55 56 (.iload_n 1) 1 := by decide +kernel
theorem kX11_bombs_56 : zD cX11_bombs 56 57 (.aload_n 0) 1 := by decide +kernel
theorem kX11_bombs_57 : zD cX11_bombs 57 60 (.getfield 48) 3 := by decide +kernel
theorem kX11_bombs_60 : zD cX11_bombs 60 63 (.getfield 136) 3 := by decide +kernel
theorem kX11_bombs_63 : zD cX11_bombs 63 66 (.invokestatic 145) 3 := by decide +kernel
theorem kX11_bombs_66 : zD cX11_bombs 66 69 (.invokestatic 191) 3 := by decide +kernel
theorem kX11_bombs_69 : zD cX11_bombs 69 71 (.lstore 7) 2 := by decide +kernel
theorem kX11_bombs_71 : zD cX11_bombs 71 73 (.lload 5) 2 := by decide +kernel
theorem kX11_bombs_73 : zD cX11_bombs 73 75 (.lload 7) 2 := by decide +kernel
theorem kX11_bombs_75 : zD cX11_bombs 75 78 (.invokestatic 194) 3 := by decide +kernel
theorem kX11_bombs_78 : zD cX11_bombs 78 80 (.lstore 9) 2 := by decide +kernel
theorem kX11_bombs_80 : zD cX11_bombs 80 82 (.lload 9) 2 := by decide +kernel
theorem kX11_bombs_82 : zD cX11_bombs 82 83 (.lconst 1) 1 := by decide +kernel
theorem kX11_bombs_83 : zD cX11_bombs 83 84 (.lcmp) 1 := by decide +kernel
theorem kX11_bombs_84 : zB cX11_bombs 84 87 91 (.ifCond .ge 7) 7 := by decide +kernel
theorem kX11_bombs_87 : zD cX11_bombs 87 90 (.ldc2_w 185) 3 := by decide +kernel
theorem kX11_bombs_90 : zD cX11_bombs 90 91 (.lreturn) 1 := by decide +kernel
theorem kX11_bombs_91 : zD cX11_bombs 91 92 (.iload_n 3) 1 := by decide +kernel
theorem kX11_bombs_92 : zB cX11_bombs 92 95 103 (.ifCond .ne 11) 11 := by decide +kernel
theorem kX11_bombs_95 : zD cX11_bombs 95 97 (.lload 5) 2 := by decide +kernel
theorem kX11_bombs_97 : zD cX11_bombs 97 99 (.lload 9) 2 := by decide +kernel
theorem kX11_bombs_99 : zD cX11_bombs 99 100 (.ldiv) 1 := by decide +kernel
theorem kX11_bombs_100 : zB cX11_bombs 100 103 108 (.goto 8) 8 := by decide +kernel
theorem kX11_bombs_103 : zD cX11_bombs 103 105 (.lload 7) 2 := by decide +kernel
theorem kX11_bombs_105 : zD cX11_bombs 105 107 (.lload 9) 2 := by decide +kernel
theorem kX11_bombs_107 : zD cX11_bombs 107 108 (.ldiv) 1 := by decide +kernel
theorem kX11_bombs_108 : zD cX11_bombs 108 109 (.lreturn) 1 := by decide +kernel
set_option maxRecDepth 10000 in
theorem wX11_bombs_0 {G : ZG} {d : Nat} {h : ZH} {Q : Option ZV → ZH → Prop} {x1 : Int32} {x2 : Int32} {x3 : Int32} 
  (H : (x1 < 2 → Q (some (zl 1000000001)) h) ∧ (¬ x1 < 2 → (10 < x1 → Q (some (zl 1000000001)) h) ∧ (¬ 10 < x1 → (x2 < 0 → Q (some (zl 1000000001)) h) ∧ (¬ x2 < 0 → (12 < x2 → Q (some (zl 1000000001)) h) ∧ (¬ 12 < x2 → (¬ (0 ≤ x3 ∧ x3 ≤ 1) → Q (some (zl 1000000001)) h) ∧ ((0 ≤ x3 ∧ x3 ≤ 1) → zC G (d + 5) mX3_bombedWaysLeaving [zr 1 0, zi x2, zi x1] h (fun r2 h1 => ∃ y3 : Int64, r2 = some (zl y3) ∧ zC G (d + 5) mX11_powerOf [zi x1, zi (bcI (h1.1 2 0 6))] h1 (fun r5 h4 => ∃ y6 : Int64, r5 = some (zl y6) ∧ zC G (d + 5) mX11_commonDivisor [zl y3, zl y6] h4 (fun r8 h7 => ∃ y9 : Int64, r8 = some (zl y9) ∧ (0 ≤ (lg_cmp y9 1) → (¬ x3 = 0 → (¬ y9 = (0 : Int64)) ∧ Q (some (zl (y6 / y9))) h7) ∧ (x3 = 0 → (¬ y9 = (0 : Int64)) ∧ Q (some (zl (y3 / y9))) h7)) ∧ (¬ 0 ≤ (lg_cmp y9 1) → Q (some (zl 1000000001)) h7)))))))))) :
  zT G (d + 6) mX11_bombs 0 [zr 0 0, zi x1, zi x2, zi x3, zu, zu, zu, zu, zu, zu, zu] [] h Q := by
  refine zt_iload_n kX11_bombs_0 rfl ?_
  refine zt_iconst (v := 2) kX11_bombs_1 rfl ?_
  refine zt_icmp_lt kX11_bombs_2 (fun c => ?_) (fun c => ?_)
  · replace H := H.1 c
    refine zt_iconst (v := 0) kX11_bombs_32 rfl ?_
    refine zt_istore (L' := [zr 0 0, zi x1, zi x2, zi x3, zi 0, zu, zu, zu, zu, zu, zu]) kX11_bombs_33 (by decide) rfl ?_
    refine zt_iload kX11_bombs_35 rfl ?_
    refine zt_if_ne kX11_bombs_37 (fun c => absurd c (by decide)) (fun _ => ?_)
    refine zt_ldc2 (v := 1000000001) kX11_bombs_40 wm_553 ?_
    exact zt_lret kX11_bombs_43 rfl H
  · replace H := H.2 c
    refine zt_iload_n kX11_bombs_5 rfl ?_
    refine zt_bipush (v := 10) kX11_bombs_6 rfl ?_
    refine zt_icmp_gt kX11_bombs_8 (fun c => ?_) (fun c => ?_)
    · replace H := H.1 c
      refine zt_iconst (v := 0) kX11_bombs_32 rfl ?_
      refine zt_istore (L' := [zr 0 0, zi x1, zi x2, zi x3, zi 0, zu, zu, zu, zu, zu, zu]) kX11_bombs_33 (by decide) rfl ?_
      refine zt_iload kX11_bombs_35 rfl ?_
      refine zt_if_ne kX11_bombs_37 (fun c => absurd c (by decide)) (fun _ => ?_)
      refine zt_ldc2 (v := 1000000001) kX11_bombs_40 wm_553 ?_
      exact zt_lret kX11_bombs_43 rfl H
    · replace H := H.2 c
      refine zt_iload_n kX11_bombs_11 rfl ?_
      refine zt_if_lt kX11_bombs_12 (fun c => ?_) (fun c => ?_)
      · replace H := H.1 c
        refine zt_iconst (v := 0) kX11_bombs_32 rfl ?_
        refine zt_istore (L' := [zr 0 0, zi x1, zi x2, zi x3, zi 0, zu, zu, zu, zu, zu, zu]) kX11_bombs_33 (by decide) rfl ?_
        refine zt_iload kX11_bombs_35 rfl ?_
        refine zt_if_ne kX11_bombs_37 (fun c => absurd c (by decide)) (fun _ => ?_)
        refine zt_ldc2 (v := 1000000001) kX11_bombs_40 wm_553 ?_
        exact zt_lret kX11_bombs_43 rfl H
      · replace H := H.2 c
        refine zt_iload_n kX11_bombs_15 rfl ?_
        refine zt_bipush (v := 12) kX11_bombs_16 rfl ?_
        refine zt_icmp_gt kX11_bombs_18 (fun c => ?_) (fun c => ?_)
        · replace H := H.1 c
          refine zt_iconst (v := 0) kX11_bombs_32 rfl ?_
          refine zt_istore (L' := [zr 0 0, zi x1, zi x2, zi x3, zi 0, zu, zu, zu, zu, zu, zu]) kX11_bombs_33 (by decide) rfl ?_
          refine zt_iload kX11_bombs_35 rfl ?_
          refine zt_if_ne kX11_bombs_37 (fun c => absurd c (by decide)) (fun _ => ?_)
          refine zt_ldc2 (v := 1000000001) kX11_bombs_40 wm_553 ?_
          exact zt_lret kX11_bombs_43 rfl H
        · replace H := H.2 c
          refine zt_iload_n kX11_bombs_21 rfl ?_
          refine zt_cS (as := [zi x3]) kX11_bombs_22 sRX11_150 rfl (by simp) rfl (sX11_isEither _  ) (fun r h0 hq => ?_)
          obtain ⟨rfl, hh⟩ := hq
          replace hh := hh.symm
          subst hh
          refine zt_ifb_eq kX11_bombs_25 (fun c => ?_) (fun c => ?_)
          · replace H := H.1 c
            refine zt_iconst (v := 0) kX11_bombs_32 rfl ?_
            refine zt_istore (L' := [zr 0 0, zi x1, zi x2, zi x3, zi 0, zu, zu, zu, zu, zu, zu]) kX11_bombs_33 (by decide) rfl ?_
            refine zt_iload kX11_bombs_35 rfl ?_
            refine zt_if_ne kX11_bombs_37 (fun c => absurd c (by decide)) (fun _ => ?_)
            refine zt_ldc2 (v := 1000000001) kX11_bombs_40 wm_553 ?_
            exact zt_lret kX11_bombs_43 rfl H
          · replace H := H.2 c
            refine zt_iconst (v := 1) kX11_bombs_28 rfl ?_
            refine zt_goto kX11_bombs_29 ?_
            refine zt_istore (L' := [zr 0 0, zi x1, zi x2, zi x3, zi 1, zu, zu, zu, zu, zu, zu]) kX11_bombs_33 (by decide) rfl ?_
            refine zt_iload kX11_bombs_35 rfl ?_
            refine zt_if_ne kX11_bombs_37 (fun _ => ?_) (fun c => absurd c (by decide))
            refine zt_aload_n kX11_bombs_44 rfl ?_
            refine zt_get (v := zr 1 0) kX11_bombs_45 fRX11_40 rfl (by decide) rfl ?_
            refine zt_iload_n kX11_bombs_48 rfl ?_
            refine zt_iload_n kX11_bombs_49 rfl ?_
            refine zt_cV (as := [zi x2, zi x1]) kX11_bombs_50 sRX11_187 rfl (by decide) rfl (by simp) rfl H (fun r2 h1 H => ?_)
            obtain ⟨y3, rfl, H⟩ := H
            refine zt_lstore (L' := [zr 0 0, zi x1, zi x2, zi x3, zi 1, zl y3, zu, zu, zu, zu, zu]) kX11_bombs_53 (by decide) rfl ?_
            refine zt_iload_n kX11_bombs_55 rfl ?_
            refine zt_aload_n kX11_bombs_56 rfl ?_
            refine zt_get (v := zr 2 0) kX11_bombs_57 fRX11_48 rfl (by decide) rfl ?_
            refine zt_get (v := zi (h1.1 2 0 6)) kX11_bombs_60 fRX11_136 rfl (by decide) rfl ?_
            refine zt_cS (as := [zi (h1.1 2 0 6)]) kX11_bombs_63 sRX11_145 rfl (by simp) rfl (sJ6_bitCount_0f7a4 _  ) (fun r h0 hq => ?_)
            obtain ⟨rfl, hh⟩ := hq
            replace hh := hh.symm
            subst hh
            refine zt_cS (as := [zi x1, zi (bcI (h1.1 2 0 6))]) kX11_bombs_66 sRX11_191 rfl (by simp) rfl H (fun r5 h4 H => ?_)
            obtain ⟨y6, rfl, H⟩ := H
            refine zt_lstore (L' := [zr 0 0, zi x1, zi x2, zi x3, zi 1, zl y3, zu, zl y6, zu, zu, zu]) kX11_bombs_69 (by decide) rfl ?_
            refine zt_lload kX11_bombs_71 rfl ?_
            refine zt_lload kX11_bombs_73 rfl ?_
            refine zt_cS (as := [zl y3, zl y6]) kX11_bombs_75 sRX11_194 rfl (by simp) rfl H (fun r8 h7 H => ?_)
            obtain ⟨y9, rfl, H⟩ := H
            refine zt_lstore (L' := [zr 0 0, zi x1, zi x2, zi x3, zi 1, zl y3, zu, zl y6, zu, zl y9, zu]) kX11_bombs_78 (by decide) rfl ?_
            refine zt_lload kX11_bombs_80 rfl ?_
            refine zt_lconst (v := 1) kX11_bombs_82 rfl ?_
            refine zt_lcmp kX11_bombs_83 ?_
            refine zt_if_ge kX11_bombs_84 (fun c => ?_) (fun c => ?_)
            · replace H := H.1 c
              refine zt_iload_n kX11_bombs_91 rfl ?_
              refine zt_if_ne kX11_bombs_92 (fun c => ?_) (fun c => ?_)
              · replace H := H.1 c
                refine zt_lload kX11_bombs_103 rfl ?_
                refine zt_lload kX11_bombs_105 rfl ?_
                obtain ⟨hne, H⟩ := H
                refine zt_ldiv kX11_bombs_107 hne ?_
                exact zt_lret kX11_bombs_108 rfl H
              · replace H := H.2 c
                refine zt_lload kX11_bombs_95 rfl ?_
                refine zt_lload kX11_bombs_97 rfl ?_
                obtain ⟨hne, H⟩ := H
                refine zt_ldiv kX11_bombs_99 hne ?_
                refine zt_goto kX11_bombs_100 ?_
                exact zt_lret kX11_bombs_108 rfl H
            · replace H := H.2 c
              refine zt_ldc2 (v := 1000000001) kX11_bombs_87 wm_553 ?_
              exact zt_lret kX11_bombs_90 rfl H

theorem kX3_bombedWaysLeaving_0 : zD cX3_bombedWaysLeaving 0 1 (.iconst 0) 1 := by decide +kernel
theorem kX3_bombedWaysLeaving_1 : zD cX3_bombedWaysLeaving 1 2 (.istore_n 3) 1 := by decide +kernel
theorem kX3_bombedWaysLeaving_2 : zD cX3_bombedWaysLeaving 2 3 (.iload_n 3) 1 := by decide +kernel
theorem kX3_bombedWaysLeaving_3 : zD cX3_bombedWaysLeaving 3 5 (.bipush 12) 2 := by decide +kernel
theorem kX3_bombedWaysLeaving_5 : zB cX3_bombedWaysLeaving 5 8 27 (.if_icmp .gt 22) 22 := by decide +kernel
theorem kX3_bombedWaysLeaving_8 : zD cX3_bombedWaysLeaving 8 9 (.aload_n 0) 1 := by decide +kernel
theorem kX3_bombedWaysLeaving_9 : zD cX3_bombedWaysLeaving 9 12 (.getfield 29) 3 := by decide +kernel
theorem kX3_bombedWaysLeaving_12 : zD cX3_bombedWaysLeaving 12 13 (.iload_n 3) 1 := by decide +kernel
theorem kX3_bombedWaysLeaving_13 : zD cX3_bombedWaysLeaving 13 14 (.iload_n 2) 1 := by decide +kernel
theorem kX3_bombedWaysLeaving_14 : zD cX3_bombedWaysLeaving 14 15 (.iconst 1) 1 := by decide +kernel
theorem kX3_bombedWaysLeaving_15 : zD cX3_bombedWaysLeaving 15 16 (.isub) 1 := by decide +kernel
theorem kX3_bombedWaysLeaving_16 : zD cX3_bombedWaysLeaving 16 17 (.iload_n 3) 1 := by decide +kernel
theorem kX3_bombedWaysLeaving_17 : zD cX3_bombedWaysLeaving 17 20 (.invokestatic 91) 3 := by decide +kernel
theorem kX3_bombedWaysLeaving_20 : zD cX3_bombedWaysLeaving 20 21 (.lastore) 1 := by decide +kernel
theorem kX3_bombedWaysLeaving_21 : zD cX3_bombedWaysLeaving 21 24 (.iinc 3 1) 3 := by decide +kernel
theorem kX3_bombedWaysLeaving_24 : zB cX3_bombedWaysLeaving 24 27 2 (.goto (-22)) (-22) := by decide +kernel
theorem kX3_bombedWaysLeaving_27 : zD cX3_bombedWaysLeaving 27 28 (.lconst 0) 1 := by decide +kernel
theorem kX3_bombedWaysLeaving_28 : zD cX3_bombedWaysLeaving 28 29 (.lstore_n 3) 1 := by decide +kernel
theorem kX3_bombedWaysLeaving_29 : zD cX3_bombedWaysLeaving 29 30 (.iconst 0) 1 := by decide +kernel
theorem kX3_bombedWaysLeaving_30 : zD cX3_bombedWaysLeaving 30 32 (.istore 5) 2 := by decide +kernel
theorem kX3_bombedWaysLeaving_32 : zD cX3_bombedWaysLeaving 32 34 (.iload 5) 2 := by decide +kernel
theorem kX3_bombedWaysLeaving_34 : zD cX3_bombedWaysLeaving 34 37 (.sipush 4095) 3 := by decide +kernel
theorem kX3_bombedWaysLeaving_37 : zB cX3_bombedWaysLeaving 37 40 90 (.if_icmp .gt 53) 53 := by decide +kernel
theorem kX3_bombedWaysLeaving_40 : zD cX3_bombedWaysLeaving 40 42 (.iload 5) 2 := by decide +kernel
theorem kX3_bombedWaysLeaving_42 : zD cX3_bombedWaysLeaving 42 43 (.aload_n 0) 1 := by decide +kernel
theorem kX3_bombedWaysLeaving_43 : zD cX3_bombedWaysLeaving 43 46 (.getfield 12) 3 := by decide +kernel
theorem kX3_bombedWaysLeaving_46 : zD cX3_bombedWaysLeaving 46 49 (.getfield 49) 3 := by decide +kernel
theorem kX3_bombedWaysLeaving_49 : zD cX3_bombedWaysLeaving 49 50 (.iconst (-1)) 1 := by decide +kernel
theorem kX3_bombedWaysLeaving_50 : zD cX3_bombedWaysLeaving 50 51 (.ixor) 1 := by decide +kernel
theorem kX3_bombedWaysLeaving_51 : zD cX3_bombedWaysLeaving 51 52 (.iand) 1 := by decide +kernel
theorem kX3_bombedWaysLeaving_52 : zB cX3_bombedWaysLeaving 52 55 58 (.ifCond .eq 6) 6 := by decide +kernel
theorem kX3_bombedWaysLeaving_55 : zB cX3_bombedWaysLeaving 55 58 84 (.goto 29) 29 := by decide +kernel
theorem kX3_bombedWaysLeaving_58 : zD cX3_bombedWaysLeaving 58 59 (.aload_n 0) 1 := by decide +kernel
theorem kX3_bombedWaysLeaving_59 : zD cX3_bombedWaysLeaving 59 61 (.iload 5) 2 := by decide +kernel
theorem kX3_bombedWaysLeaving_61 : zD cX3_bombedWaysLeaving 61 64 (.invokevirtual 52) 3 := by decide +kernel
theorem kX3_bombedWaysLeaving_64 : zD cX3_bombedWaysLeaving 64 67 (.invokestatic 56) 3 := by decide +kernel
theorem kX3_bombedWaysLeaving_67 : zD cX3_bombedWaysLeaving 67 68 (.iload_n 1) 1 := by decide +kernel
theorem kX3_bombedWaysLeaving_68 : zB cX3_bombedWaysLeaving 68 71 84 (.if_icmp .lt 16) 16 := by decide +kernel
theorem kX3_bombedWaysLeaving_71 : zD cX3_bombedWaysLeaving 71 72 (.lload_n 3) 1 := by decide +kernel
theorem kX3_bombedWaysLeaving_72 : zD cX3_bombedWaysLeaving 72 73 (.aload_n 0) 1 := by decide +kernel
theorem kX3_bombedWaysLeaving_73 : zD cX3_bombedWaysLeaving 73 76 (.getfield 29) 3 := by decide +kernel
theorem kX3_bombedWaysLeaving_76 : zD cX3_bombedWaysLeaving 76 78 (.iload 5) 2 := by decide +kernel
theorem kX3_bombedWaysLeaving_78 : zD cX3_bombedWaysLeaving 78 81 (.invokestatic 56) 3 := by decide +kernel
theorem kX3_bombedWaysLeaving_81 : zD cX3_bombedWaysLeaving 81 82 (.laload) 1 := by decide +kernel
theorem kX3_bombedWaysLeaving_82 : zD cX3_bombedWaysLeaving 82 83 (.ladd) 1 := by decide +kernel
theorem kX3_bombedWaysLeaving_83 : zD cX3_bombedWaysLeaving 83 84 (.lstore_n 3) 1 := by decide +kernel
theorem kX3_bombedWaysLeaving_84 : zD cX3_bombedWaysLeaving 84 87 (.iinc 5 1) 3 := by decide +kernel
theorem kX3_bombedWaysLeaving_87 : zB cX3_bombedWaysLeaving 87 90 32 (.goto (-55)) (-55) := by decide +kernel
theorem kX3_bombedWaysLeaving_90 : zD cX3_bombedWaysLeaving 90 91 (.lload_n 3) 1 := by decide +kernel
theorem kX3_bombedWaysLeaving_91 : zD cX3_bombedWaysLeaving 91 92 (.lreturn) 1 := by decide +kernel
set_option maxRecDepth 10000 in
theorem wX3_bombedWaysLeaving_0 {G : ZG} {d : Nat} {h : ZH} {Q : Option ZV → ZH → Prop} {x1 : Int32} {x2 : Int32} 
  (H : zT G (d + 5) mX3_bombedWaysLeaving 2 [zr 1 0, zi x1, zi x2, zi 0, zu, zu] [] h Q) :
  zT G (d + 5) mX3_bombedWaysLeaving 0 [zr 1 0, zi x1, zi x2, zu, zu, zu] [] h Q := by
  refine zt_iconst (v := 0) kX3_bombedWaysLeaving_0 rfl ?_
  refine zt_istore_n (L' := [zr 1 0, zi x1, zi x2, zi 0, zu, zu]) kX3_bombedWaysLeaving_1 (by decide) rfl ?_
  exact H

set_option maxRecDepth 10000 in
theorem wX3_bombedWaysLeaving_2 {G : ZG} {d : Nat} {h : ZH} {Q : Option ZV → ZH → Prop} {x1 : Int32} {x2 : Int32} {x3 : Int32} 
  (H : (12 < x3 → zT G (d + 5) mX3_bombedWaysLeaving 32 [zr 1 0, zi x1, zi x2, zl 0, zu, zi 0] [] h Q) ∧ (¬ 12 < x3 → zC G (d + 4) mX11_powerOf [zi (x2 - 1), zi x3] h (fun r2 h1 => ∃ y3 : Int64, r2 = some (zl y3) ∧ vp_in x3 13 ∧ (∀ h4 : ZH, h4 = zs2 h1 20 0 x3.toNatClampNeg y3 → zT G (d + 5) mX3_bombedWaysLeaving 2 [zr 1 0, zi x1, zi x2, zi (x3 + 1), zu, zu] [] h4 Q)))) :
  zT G (d + 5) mX3_bombedWaysLeaving 2 [zr 1 0, zi x1, zi x2, zi x3, zu, zu] [] h Q := by
  refine zt_iload_n kX3_bombedWaysLeaving_2 rfl ?_
  refine zt_bipush (v := 12) kX3_bombedWaysLeaving_3 rfl ?_
  refine zt_icmp_gt kX3_bombedWaysLeaving_5 (fun c => ?_) (fun c => ?_)
  · replace H := H.1 c
    refine zt_lconst (v := 0) kX3_bombedWaysLeaving_27 rfl ?_
    refine zt_lstore_n (L' := [zr 1 0, zi x1, zi x2, zl 0, zu, zu]) kX3_bombedWaysLeaving_28 (by decide) rfl ?_
    refine zt_iconst (v := 0) kX3_bombedWaysLeaving_29 rfl ?_
    refine zt_istore (L' := [zr 1 0, zi x1, zi x2, zl 0, zu, zi 0]) kX3_bombedWaysLeaving_30 (by decide) rfl ?_
    exact H
  · replace H := H.2 c
    refine zt_aload_n kX3_bombedWaysLeaving_8 rfl ?_
    refine zt_get (v := zr 20 0) kX3_bombedWaysLeaving_9 fRX3_29 rfl (by decide) rfl ?_
    refine zt_iload_n kX3_bombedWaysLeaving_12 rfl ?_
    refine zt_iload_n kX3_bombedWaysLeaving_13 rfl ?_
    refine zt_iconst (v := 1) kX3_bombedWaysLeaving_14 rfl ?_
    refine zt_isub kX3_bombedWaysLeaving_15 ?_
    refine zt_iload_n kX3_bombedWaysLeaving_16 rfl ?_
    refine zt_cSN (as := [zi (x2 - 1), zi x3]) kX3_bombedWaysLeaving_17 sRX3_91 rfl (by simp) rfl H (fun r2 h1 H => ?_)
    obtain ⟨y3, rfl, H⟩ := H
    obtain ⟨hv, H⟩ := H
    refine zt_last kX3_bombedWaysLeaving_20 rfl (by decide) hv ?_
    refine zt_heap (fun h4 eh4 => ?_)
    replace H := H h4 eh4
    refine zt_iinc (v := (x3 + 1)) (L' := [zr 1 0, zi x1, zi x2, zi (x3 + 1), zu, zu]) kX3_bombedWaysLeaving_21 rfl rfl (by decide) rfl ?_
    refine zt_goto kX3_bombedWaysLeaving_24 ?_
    exact H

set_option maxRecDepth 10000 in
theorem wX3_bombedWaysLeaving_32 {G : ZG} {d : Nat} {h : ZH} {Q : Option ZV → ZH → Prop} {x1 : Int32} {x2 : Int32} {x3 : Int64} {x5 : Int32} 
  (H : (4095 < x5 → Q (some (zl x3)) h) ∧ (¬ 4095 < x5 → ((x5 &&& ((h.1 2 0 6) ^^^ (-1))) = 0 → zC G (d + 4) mX3_leftOf [zr 1 0, zi x5] h (fun r2 h1 => ∃ y3 : Int32, r2 = some (zi y3) ∧ ((bcI y3) < x1 → zT G (d + 5) mX3_bombedWaysLeaving 32 [zr 1 0, zi x1, zi x2, zl x3, zu, zi (x5 + 1)] [] h1 Q) ∧ (¬ (bcI y3) < x1 → vp_in (bcI x5) 13 ∧ zT G (d + 5) mX3_bombedWaysLeaving 32 [zr 1 0, zi x1, zi x2, zl (x3 + (h1.2 20 0 (bcI x5).toNatClampNeg)), zu, zi (x5 + 1)] [] h1 Q))) ∧ (¬ (x5 &&& ((h.1 2 0 6) ^^^ (-1))) = 0 → zT G (d + 5) mX3_bombedWaysLeaving 32 [zr 1 0, zi x1, zi x2, zl x3, zu, zi (x5 + 1)] [] h Q))) :
  zT G (d + 5) mX3_bombedWaysLeaving 32 [zr 1 0, zi x1, zi x2, zl x3, zu, zi x5] [] h Q := by
  refine zt_iload kX3_bombedWaysLeaving_32 rfl ?_
  refine zt_sipush (v := 4095) kX3_bombedWaysLeaving_34 rfl ?_
  refine zt_icmp_gt kX3_bombedWaysLeaving_37 (fun c => ?_) (fun c => ?_)
  · replace H := H.1 c
    refine zt_lload_n kX3_bombedWaysLeaving_90 rfl ?_
    exact zt_lret kX3_bombedWaysLeaving_91 rfl H
  · replace H := H.2 c
    refine zt_iload kX3_bombedWaysLeaving_40 rfl ?_
    refine zt_aload_n kX3_bombedWaysLeaving_42 rfl ?_
    refine zt_get (v := zr 2 0) kX3_bombedWaysLeaving_43 fRX3_12 rfl (by decide) rfl ?_
    refine zt_get (v := zi (h.1 2 0 6)) kX3_bombedWaysLeaving_46 fRX3_49 rfl (by decide) rfl ?_
    refine zt_iconst (v := (-1)) kX3_bombedWaysLeaving_49 rfl ?_
    refine zt_ixor kX3_bombedWaysLeaving_50 ?_
    refine zt_iand kX3_bombedWaysLeaving_51 ?_
    refine zt_if_eq kX3_bombedWaysLeaving_52 (fun c => ?_) (fun c => ?_)
    · replace H := H.1 c
      refine zt_aload_n kX3_bombedWaysLeaving_58 rfl ?_
      refine zt_iload kX3_bombedWaysLeaving_59 rfl ?_
      refine zt_cV (as := [zi x5]) kX3_bombedWaysLeaving_61 sRX3_52 rfl (by decide) rfl (by simp) rfl H (fun r2 h1 H => ?_)
      obtain ⟨y3, rfl, H⟩ := H
      refine zt_cS (as := [zi y3]) kX3_bombedWaysLeaving_64 sRX3_56 rfl (by simp) rfl (sJ6_bitCount_0f7a4 _  ) (fun r h0 hq => ?_)
      obtain ⟨rfl, hh⟩ := hq
      replace hh := hh.symm
      subst hh
      refine zt_iload_n kX3_bombedWaysLeaving_67 rfl ?_
      refine zt_icmp_lt kX3_bombedWaysLeaving_68 (fun c => ?_) (fun c => ?_)
      · replace H := H.1 c
        refine zt_iinc (v := (x5 + 1)) (L' := [zr 1 0, zi x1, zi x2, zl x3, zu, zi (x5 + 1)]) kX3_bombedWaysLeaving_84 rfl rfl (by decide) rfl ?_
        refine zt_goto kX3_bombedWaysLeaving_87 ?_
        exact H
      · replace H := H.2 c
        refine zt_lload_n kX3_bombedWaysLeaving_71 rfl ?_
        refine zt_aload_n kX3_bombedWaysLeaving_72 rfl ?_
        refine zt_get (v := zr 20 0) kX3_bombedWaysLeaving_73 fRX3_29 rfl (by decide) rfl ?_
        refine zt_iload kX3_bombedWaysLeaving_76 rfl ?_
        refine zt_cS (as := [zi x5]) kX3_bombedWaysLeaving_78 sRX3_56 rfl (by simp) rfl (sJ6_bitCount_0f7a4 _  ) (fun r h0 hq => ?_)
        obtain ⟨rfl, hh⟩ := hq
        replace hh := hh.symm
        subst hh
        obtain ⟨hv, H⟩ := H
        refine zt_lald kX3_bombedWaysLeaving_81 rfl (by decide) hv ?_
        refine zt_ladd kX3_bombedWaysLeaving_82 ?_
        refine zt_lstore_n (L' := [zr 1 0, zi x1, zi x2, zl (x3 + (h1.2 20 0 (bcI x5).toNatClampNeg)), zu, zi x5]) kX3_bombedWaysLeaving_83 (by decide) rfl ?_
        refine zt_iinc (v := (x5 + 1)) (L' := [zr 1 0, zi x1, zi x2, zl (x3 + (h1.2 20 0 (bcI x5).toNatClampNeg)), zu, zi (x5 + 1)]) kX3_bombedWaysLeaving_84 rfl rfl (by decide) rfl ?_
        refine zt_goto kX3_bombedWaysLeaving_87 ?_
        exact H
    · replace H := H.2 c
      refine zt_goto kX3_bombedWaysLeaving_55 ?_
      refine zt_iinc (v := (x5 + 1)) (L' := [zr 1 0, zi x1, zi x2, zl x3, zu, zi (x5 + 1)]) kX3_bombedWaysLeaving_84 rfl rfl (by decide) rfl ?_
      refine zt_goto kX3_bombedWaysLeaving_87 ?_
      exact H

theorem kX12_bombs_0 : zD cX12_bombs 0 1 (.iload_n 1) 1 := by decide +kernel
theorem kX12_bombs_1 : zD cX12_bombs 1 2 (.iconst 2) 1 := by decide +kernel
theorem kX12_bombs_2 : zD cX12_bombs 2 4 (.bipush 10) 2 := by decide +kernel
theorem kX12_bombs_4 : zD cX12_bombs 4 7 (.invokestatic 53) 3 := by decide +kernel
theorem kX12_bombs_7 : zB cX12_bombs 7 10 29 (.ifCond .eq 22) 22 := by decide +kernel
theorem kX12_bombs_10 : zD cX12_bombs 10 11 (.iload_n 2) 1 := by decide +kernel
theorem kX12_bombs_11 : zD cX12_bombs 11 12 (.iconst 0) 1 := by decide +kernel
theorem kX12_bombs_12 : zD cX12_bombs 12 14 (.bipush 12) 2 := by decide +kernel
theorem kX12_bombs_14 : zD cX12_bombs 14 17 (.invokestatic 53) 3 := by decide +kernel
theorem kX12_bombs_17 : zB cX12_bombs 17 20 29 (.ifCond .eq 12) 12 := by decide +kernel
theorem kX12_bombs_20 : zD cX12_bombs 20 21 (.iload_n 3) 1 := by decide +kernel
theorem kX12_bombs_21 : zD cX12_bombs 21 22 (.iconst 0) 1 := by decide +kernel
theorem kX12_bombs_22 : zD cX12_bombs 22 23 (.iconst 1) 1 := by decide +kernel
theorem kX12_bombs_23 : zD cX12_bombs 23 26 (.invokestatic 53) 3 := by decide +kernel
theorem kX12_bombs_26 : zB cX12_bombs 26 29 33 (.ifCond .ne 7) 7 := by decide +kernel
theorem kX12_bombs_29 : zD cX12_bombs 29 32 (.ldc2_w 184) 3 := by decide +kernel
theorem kX12_bombs_32 : zD cX12_bombs 32 33 (.lreturn) 1 := by decide +kernel
theorem kX12_bombs_33 : zD cX12_bombs 33 34 (.lconst 0) 1 := by decide +kernel
theorem kX12_bombs_34 : zD cX12_bombs 34 36 (.lstore 4) 2 := by decide +kernel
theorem kX12_bombs_36 : zD cX12_bombs 36 37 (.lconst 1) 1 := by decide +kernel
theorem kX12_bombs_37 : zD cX12_bombs 37 39 (.lstore 6) 2 := by decide +kernel
theorem kX12_bombs_39 : zD cX12_bombs 39 40 (.iconst 0) 1 := by decide +kernel
theorem kX12_bombs_40 : zD cX12_bombs 40 42 (.istore 8) 2 := by decide +kernel
theorem kX12_bombs_42 : zD cX12_bombs 42 44 (.iload 8) 2 := by decide +kernel
theorem kX12_bombs_44 : zD cX12_bombs 44 45 (.aload_n 0) 1 := by decide +kernel
theorem kX12_bombs_45 : zD cX12_bombs 45 48 (.getfield 9) 3 := by decide +kernel
theorem kX12_bombs_48 : zD cX12_bombs 48 49 (.iconst 0) 1 := by decide +kernel
theorem kX12_bombs_49 : zD cX12_bombs 49 50 (.iaload) 1 := by decide +kernel
theorem kX12_bombs_50 : zD cX12_bombs 50 53 (.invokestatic 107) 3 := by decide +kernel
theorem kX12_bombs_53 : zB cX12_bombs 53 56 69 (.if_icmp .ge 16) 16 := by decide +kernel
theorem kX12_bombs_56 : zD cX12_bombs 56 58 (.lload 6) 2 := by decide +kernel
theorem kX12_bombs_58 : zD cX12_bombs 58 59 (.iload_n 1) 1 := by decide +kernel
theorem kX12_bombs_59 : zD cX12_bombs 59 60 (.i2l) 1 := by decide +kernel
theorem kX12_bombs_60 : zD cX12_bombs 60 61 (.lmul) 1 := by decide +kernel
theorem kX12_bombs_61 : zD cX12_bombs 61 63 (.lstore 6) 2 := by decide +kernel
theorem kX12_bombs_63 : zD cX12_bombs 63 66 (.iinc 8 1) 3 := by decide +kernel
theorem kX12_bombs_66 : zB cX12_bombs 66 69 42 (.goto (-24)) (-24) := by decide +kernel
theorem kX12_bombs_69 : zD cX12_bombs 69 70 (.iconst 0) 1 := by decide +kernel
theorem kX12_bombs_70 : zD cX12_bombs 70 72 (.istore 8) 2 := by decide +kernel
theorem kX12_bombs_72 : zD cX12_bombs 72 74 (.iload 8) 2 := by decide +kernel
theorem kX12_bombs_74 : zD cX12_bombs 74 77 (.sipush 4096) 3 := by decide +kernel
theorem kX12_bombs_77 : zB cX12_bombs 77 80 168 (.if_icmp .ge 91) 91 := by decide +kernel
theorem kX12_bombs_80 : zD cX12_bombs 80 82 (.iload 8) 2 := by decide +kernel
theorem kX12_bombs_82 : zD cX12_bombs 82 83 (.aload_n 0) 1 := by decide +kernel
theorem kX12_bombs_83 : zD cX12_bombs 83 86 (.getfield 9) 3 := by decide +kernel
theorem kX12_bombs_86 : zD cX12_bombs 86 87 (.iconst 0) 1 := by decide +kernel
theorem kX12_bombs_87 : zD cX12_bombs 87 88 (.iaload) 1 := by decide +kernel
theorem kX12_bombs_88 : zD cX12_bombs 88 89 (.iconst (-1)) 1 := by decide +kernel
theorem kX12_bombs_89 : zD cX12_bombs 89 90 (.ixor) 1 := by decide +kernel
theorem kX12_bombs_90 : zD cX12_bombs 90 91 (.iand) 1 := by decide +kernel
theorem kX12_bombs_91 : zB cX12_bombs 91 94 162 (.ifCond .ne 71) 71 := by decide +kernel
theorem kX12_bombs_94 : zD cX12_bombs 94 95 (.aload_n 0) 1 := by decide +kernel
theorem kX12_bombs_95 : zD cX12_bombs 95 96 (.aload_n 0) 1 := by decide +kernel
theorem kX12_bombs_96 : zD cX12_bombs 96 99 (.getfield 9) 3 := by decide +kernel
theorem kX12_bombs_99 : zD cX12_bombs 99 100 (.iconst 0) 1 := by decide +kernel
theorem kX12_bombs_100 : zD cX12_bombs 100 101 (.iaload) 1 := by decide +kernel
theorem kX12_bombs_101 : zD cX12_bombs 101 103 (.iload 8) 2 := by decide +kernel
theorem kX12_bombs_103 : zD cX12_bombs 103 106 (.invokevirtual 110) 3 := by decide +kernel
theorem kX12_bombs_106 : zD cX12_bombs 106 109 (.invokestatic 107) 3 := by decide +kernel
theorem kX12_bombs_109 : zD cX12_bombs 109 110 (.iload_n 2) 1 := by decide +kernel
theorem kX12_bombs_110 : zB cX12_bombs 110 113 116 (.if_icmp .ge 6) 6 := by decide +kernel
theorem kX12_bombs_113 : zB cX12_bombs 113 116 162 (.goto 49) 49 := by decide +kernel
theorem kX12_bombs_116 : zD cX12_bombs 116 117 (.lconst 1) 1 := by decide +kernel
theorem kX12_bombs_117 : zD cX12_bombs 117 119 (.lstore 9) 2 := by decide +kernel
theorem kX12_bombs_119 : zD cX12_bombs 119 121 (.iload 8) 2 := by decide +kernel
theorem kX12_bombs_121 : zD cX12_bombs 121 124 (.invokestatic 107) 3 := by decide +kernel
theorem kX12_bombs_124 : zD cX12_bombs 124 126 (.istore 11) 2 := by decide +kernel
theorem kX12_bombs_126 : zD cX12_bombs 126 128 (.iload 11) 2 := by decide +kernel
theorem kX12_bombs_128 : zD cX12_bombs 128 129 (.aload_n 0) 1 := by decide +kernel
theorem kX12_bombs_129 : zD cX12_bombs 129 132 (.getfield 9) 3 := by decide +kernel
theorem kX12_bombs_132 : zD cX12_bombs 132 133 (.iconst 0) 1 := by decide +kernel
theorem kX12_bombs_133 : zD cX12_bombs 133 134 (.iaload) 1 := by decide +kernel
theorem kX12_bombs_134 : zD cX12_bombs 134 137 (.invokestatic 107) 3 := by decide +kernel
theorem kX12_bombs_137 : zB cX12_bombs 137 140 155 (.if_icmp .ge 18) 18 := by decide +kernel
theorem kX12_bombs_140 : zD cX12_bombs 140 142 (.lload 9) 2 := by decide +kernel
theorem kX12_bombs_142 : zD cX12_bombs 142 143 (.iload_n 1) 1 := by decide +kernel
theorem kX12_bombs_143 : zD cX12_bombs 143 144 (.iconst 1) 1 := by decide +kernel
theorem kX12_bombs_144 : zD cX12_bombs 144 145 (.isub) 1 := by decide +kernel
theorem kX12_bombs_145 : zD cX12_bombs 145 146 (.i2l) 1 := by decide +kernel
theorem kX12_bombs_146 : zD cX12_bombs 146 147 (.lmul) 1 := by decide +kernel
theorem kX12_bombs_147 : zD cX12_bombs 147 149 (.lstore 9) 2 := by decide +kernel
theorem kX12_bombs_149 : zD cX12_bombs 149 152 (.iinc 11 1) 3 := by decide +kernel
theorem kX12_bombs_152 : zB cX12_bombs 152 155 126 (.goto (-26)) (-26) := by decide +kernel
theorem kX12_bombs_155 : zD cX12_bombs 155 157 (.lload 4) 2 := by decide +kernel
theorem kX12_bombs_157 : zD cX12_bombs 157 159 (.lload 9) 2 := by decide +kernel
theorem kX12_bombs_159 : zD cX12_bombs 159 160 (.ladd) 1 := by decide +kernel
theorem kX12_bombs_160 : zD cX12_bombs 160 162 (.lstore 4) 2 := by decide +kernel
theorem kX12_bombs_162 : zD cX12_bombs 162 165 (.iinc 8 1) 3 := by decide +kernel
theorem kX12_bombs_165 : zB cX12_bombs 165 168 72 (.goto (-93)) (-93) := by decide +kernel
theorem kX12_bombs_168 : zD cX12_bombs 168 170 (.lload 4) 2 := by decide +kernel
theorem kX12_bombs_170 : zD cX12_bombs 170 172 (.lload 6) 2 := by decide +kernel
theorem kX12_bombs_172 : zD cX12_bombs 172 173 (.iload_n 3) 1 := by decide +kernel
theorem kX12_bombs_173 : zD cX12_bombs 173 176 (.invokestatic 186) 3 := by decide +kernel
theorem kX12_bombs_176 : zD cX12_bombs 176 177 (.lreturn) 1 := by decide +kernel
set_option maxRecDepth 10000 in
theorem wX12_bombs_0 {G : ZG} {d : Nat} {h : ZH} {Q : Option ZV → ZH → Prop} {x1 : Int32} {x2 : Int32} {x3 : Int32} 
  (H : (¬ ((2 : Int32) ≤ x1 ∧ x1 ≤ (10 : Int32)) → Q (some (zl 1000000001)) h) ∧ (((2 : Int32) ≤ x1 ∧ x1 ≤ (10 : Int32)) → (¬ ((0 : Int32) ≤ x2 ∧ x2 ≤ (12 : Int32)) → Q (some (zl 1000000001)) h) ∧ (((0 : Int32) ≤ x2 ∧ x2 ≤ (12 : Int32)) → (((0 : Int32) ≤ x3 ∧ x3 ≤ (1 : Int32)) → zT G (d + 7) mX12_bombs 42 [zr 5 0, zi x1, zi x2, zi x3, zl 0, zu, zl 1, zu, zi 0, zu, zu, zu] [] h Q) ∧ (¬ ((0 : Int32) ≤ x3 ∧ x3 ≤ (1 : Int32)) → Q (some (zl 1000000001)) h)))) :
  zT G (d + 7) mX12_bombs 0 [zr 5 0, zi x1, zi x2, zi x3, zu, zu, zu, zu, zu, zu, zu, zu] [] h Q := by
  refine zt_iload_n kX12_bombs_0 rfl ?_
  refine zt_iconst (v := 2) kX12_bombs_1 rfl ?_
  refine zt_bipush (v := 10) kX12_bombs_2 rfl ?_
  refine zt_cS (as := [zi x1, zi 2, zi 10]) kX12_bombs_4 sRX12_53 rfl (by simp) rfl (sX12_isIn _  ) (fun r h0 hq => ?_)
  obtain ⟨rfl, hh⟩ := hq
  replace hh := hh.symm
  subst hh
  refine zt_ifb_eq kX12_bombs_7 (fun c => ?_) (fun c => ?_)
  · replace H := H.1 c
    refine zt_ldc2 (v := 1000000001) kX12_bombs_29 wm_1267 ?_
    exact zt_lret kX12_bombs_32 rfl H
  · replace H := H.2 c
    refine zt_iload_n kX12_bombs_10 rfl ?_
    refine zt_iconst (v := 0) kX12_bombs_11 rfl ?_
    refine zt_bipush (v := 12) kX12_bombs_12 rfl ?_
    refine zt_cS (as := [zi x2, zi 0, zi 12]) kX12_bombs_14 sRX12_53 rfl (by simp) rfl (sX12_isIn _  ) (fun r h0 hq => ?_)
    obtain ⟨rfl, hh⟩ := hq
    replace hh := hh.symm
    subst hh
    refine zt_ifb_eq kX12_bombs_17 (fun c => ?_) (fun c => ?_)
    · replace H := H.1 c
      refine zt_ldc2 (v := 1000000001) kX12_bombs_29 wm_1267 ?_
      exact zt_lret kX12_bombs_32 rfl H
    · replace H := H.2 c
      refine zt_iload_n kX12_bombs_20 rfl ?_
      refine zt_iconst (v := 0) kX12_bombs_21 rfl ?_
      refine zt_iconst (v := 1) kX12_bombs_22 rfl ?_
      refine zt_cS (as := [zi x3, zi 0, zi 1]) kX12_bombs_23 sRX12_53 rfl (by simp) rfl (sX12_isIn _  ) (fun r h0 hq => ?_)
      obtain ⟨rfl, hh⟩ := hq
      replace hh := hh.symm
      subst hh
      refine zt_ifb_ne kX12_bombs_26 (fun c => ?_) (fun c => ?_)
      · replace H := H.1 c
        refine zt_lconst (v := 0) kX12_bombs_33 rfl ?_
        refine zt_lstore (L' := [zr 5 0, zi x1, zi x2, zi x3, zl 0, zu, zu, zu, zu, zu, zu, zu]) kX12_bombs_34 (by decide) rfl ?_
        refine zt_lconst (v := 1) kX12_bombs_36 rfl ?_
        refine zt_lstore (L' := [zr 5 0, zi x1, zi x2, zi x3, zl 0, zu, zl 1, zu, zu, zu, zu, zu]) kX12_bombs_37 (by decide) rfl ?_
        refine zt_iconst (v := 0) kX12_bombs_39 rfl ?_
        refine zt_istore (L' := [zr 5 0, zi x1, zi x2, zi x3, zl 0, zu, zl 1, zu, zi 0, zu, zu, zu]) kX12_bombs_40 (by decide) rfl ?_
        exact H
      · replace H := H.2 c
        refine zt_ldc2 (v := 1000000001) kX12_bombs_29 wm_1267 ?_
        exact zt_lret kX12_bombs_32 rfl H

set_option maxRecDepth 10000 in
theorem wX12_bombs_42 {G : ZG} {d : Nat} {h : ZH} {Q : Option ZV → ZH → Prop} {x1 : Int32} {x2 : Int32} {x3 : Int32} {x4 : Int64} {x6 : Int64} {x8 : Int32} 
  (H : ((bitsI (h.1 30 0 0)) ≤ x8 → zT G (d + 7) mX12_bombs 72 [zr 5 0, zi x1, zi x2, zi x3, zl x4, zu, zl x6, zu, zi 0, zu, zu, zu] [] h Q) ∧ (¬ (bitsI (h.1 30 0 0)) ≤ x8 → zT G (d + 7) mX12_bombs 42 [zr 5 0, zi x1, zi x2, zi x3, zl x4, zu, zl (x6 * (x1).toInt64), zu, zi (x8 + 1), zu, zu, zu] [] h Q)) :
  zT G (d + 7) mX12_bombs 42 [zr 5 0, zi x1, zi x2, zi x3, zl x4, zu, zl x6, zu, zi x8, zu, zu, zu] [] h Q := by
  refine zt_iload kX12_bombs_42 rfl ?_
  refine zt_aload_n kX12_bombs_44 rfl ?_
  refine zt_get (v := zr 30 0) kX12_bombs_45 fRX12_9 rfl (by decide) rfl ?_
  refine zt_iconst (v := 0) kX12_bombs_48 rfl ?_
  refine zt_ialdc 0 rfl kX12_bombs_49 rfl (by decide) (zvp_dec (by decide)) ?_
  refine zt_cS (as := [zi (h.1 30 0 0)]) kX12_bombs_50 sRX12_107 rfl (by simp) rfl (sX12_bits _  ) (fun r h0 hq => ?_)
  obtain ⟨rfl, hh⟩ := hq
  replace hh := hh.symm
  subst hh
  refine zt_icmp_ge kX12_bombs_53 (fun c => ?_) (fun c => ?_)
  · replace H := H.1 c
    refine zt_iconst (v := 0) kX12_bombs_69 rfl ?_
    refine zt_istore (L' := [zr 5 0, zi x1, zi x2, zi x3, zl x4, zu, zl x6, zu, zi 0, zu, zu, zu]) kX12_bombs_70 (by decide) rfl ?_
    exact H
  · replace H := H.2 c
    refine zt_lload kX12_bombs_56 rfl ?_
    refine zt_iload_n kX12_bombs_58 rfl ?_
    refine zt_i2l kX12_bombs_59 ?_
    refine zt_lmul kX12_bombs_60 ?_
    refine zt_lstore (L' := [zr 5 0, zi x1, zi x2, zi x3, zl x4, zu, zl (x6 * (x1).toInt64), zu, zi x8, zu, zu, zu]) kX12_bombs_61 (by decide) rfl ?_
    refine zt_iinc (v := (x8 + 1)) (L' := [zr 5 0, zi x1, zi x2, zi x3, zl x4, zu, zl (x6 * (x1).toInt64), zu, zi (x8 + 1), zu, zu, zu]) kX12_bombs_63 rfl rfl (by decide) rfl ?_
    refine zt_goto kX12_bombs_66 ?_
    exact H

set_option maxRecDepth 10000 in
theorem wX12_bombs_72 {G : ZG} {d : Nat} {h : ZH} {Q : Option ZV → ZH → Prop} {x1 : Int32} {x2 : Int32} {x3 : Int32} {x4 : Int64} {x6 : Int64} {x8 : Int32} 
  (H : (4096 ≤ x8 → zC G (d + 6) mX12_partOf [zl x4, zl x6, zi x3] h (fun r2 h1 => ∃ y3 : Int64, r2 = some (zl y3) ∧ Q (some (zl y3)) h1)) ∧ (¬ 4096 ≤ x8 → (¬ (x8 &&& ((h.1 30 0 0) ^^^ (-1))) = 0 → zT G (d + 7) mX12_bombs 72 [zr 5 0, zi x1, zi x2, zi x3, zl x4, zu, zl x6, zu, zi (x8 + 1), zu, zu, zu] [] h Q) ∧ ((x8 &&& ((h.1 30 0 0) ^^^ (-1))) = 0 → zC G (d + 6) mX12_leftWithout [zr 5 0, zi (h.1 30 0 0), zi x8] h (fun r5 h4 => ∃ y6 : Int32, r5 = some (zi y6) ∧ (x2 ≤ (bitsI y6) → zT G (d + 7) mX12_bombs 126 [zr 5 0, zi x1, zi x2, zi x3, zl x4, zu, zl x6, zu, zi x8, zl 1, zu, zi (bitsI x8)] [] h4 Q) ∧ (¬ x2 ≤ (bitsI y6) → zT G (d + 7) mX12_bombs 72 [zr 5 0, zi x1, zi x2, zi x3, zl x4, zu, zl x6, zu, zi (x8 + 1), zu, zu, zu] [] h4 Q))))) :
  zT G (d + 7) mX12_bombs 72 [zr 5 0, zi x1, zi x2, zi x3, zl x4, zu, zl x6, zu, zi x8, zu, zu, zu] [] h Q := by
  refine zt_iload kX12_bombs_72 rfl ?_
  refine zt_sipush (v := 4096) kX12_bombs_74 rfl ?_
  refine zt_icmp_ge kX12_bombs_77 (fun c => ?_) (fun c => ?_)
  · replace H := H.1 c
    refine zt_lload kX12_bombs_168 rfl ?_
    refine zt_lload kX12_bombs_170 rfl ?_
    refine zt_iload_n kX12_bombs_172 rfl ?_
    refine zt_cS (as := [zl x4, zl x6, zi x3]) kX12_bombs_173 sRX12_186 rfl (by simp) rfl H (fun r2 h1 H => ?_)
    obtain ⟨y3, rfl, H⟩ := H
    exact zt_lret kX12_bombs_176 rfl H
  · replace H := H.2 c
    refine zt_iload kX12_bombs_80 rfl ?_
    refine zt_aload_n kX12_bombs_82 rfl ?_
    refine zt_get (v := zr 30 0) kX12_bombs_83 fRX12_9 rfl (by decide) rfl ?_
    refine zt_iconst (v := 0) kX12_bombs_86 rfl ?_
    refine zt_ialdc 0 rfl kX12_bombs_87 rfl (by decide) (zvp_dec (by decide)) ?_
    refine zt_iconst (v := (-1)) kX12_bombs_88 rfl ?_
    refine zt_ixor kX12_bombs_89 ?_
    refine zt_iand kX12_bombs_90 ?_
    refine zt_if_ne kX12_bombs_91 (fun c => ?_) (fun c => ?_)
    · replace H := H.1 c
      refine zt_iinc (v := (x8 + 1)) (L' := [zr 5 0, zi x1, zi x2, zi x3, zl x4, zu, zl x6, zu, zi (x8 + 1), zu, zu, zu]) kX12_bombs_162 rfl rfl (by decide) rfl ?_
      refine zt_goto kX12_bombs_165 ?_
      exact H
    · replace H := H.2 c
      refine zt_aload_n kX12_bombs_94 rfl ?_
      refine zt_aload_n kX12_bombs_95 rfl ?_
      refine zt_get (v := zr 30 0) kX12_bombs_96 fRX12_9 rfl (by decide) rfl ?_
      refine zt_iconst (v := 0) kX12_bombs_99 rfl ?_
      refine zt_ialdc 0 rfl kX12_bombs_100 rfl (by decide) (zvp_dec (by decide)) ?_
      refine zt_iload kX12_bombs_101 rfl ?_
      refine zt_cV (as := [zi (h.1 30 0 0), zi x8]) kX12_bombs_103 sRX12_110 rfl (by decide) rfl (by simp) rfl H (fun r5 h4 H => ?_)
      obtain ⟨y6, rfl, H⟩ := H
      refine zt_cS (as := [zi y6]) kX12_bombs_106 sRX12_107 rfl (by simp) rfl (sX12_bits _  ) (fun r h0 hq => ?_)
      obtain ⟨rfl, hh⟩ := hq
      replace hh := hh.symm
      subst hh
      refine zt_iload_n kX12_bombs_109 rfl ?_
      refine zt_icmp_ge kX12_bombs_110 (fun c => ?_) (fun c => ?_)
      · replace H := H.1 c
        refine zt_lconst (v := 1) kX12_bombs_116 rfl ?_
        refine zt_lstore (L' := [zr 5 0, zi x1, zi x2, zi x3, zl x4, zu, zl x6, zu, zi x8, zl 1, zu, zu]) kX12_bombs_117 (by decide) rfl ?_
        refine zt_iload kX12_bombs_119 rfl ?_
        refine zt_cS (as := [zi x8]) kX12_bombs_121 sRX12_107 rfl (by simp) rfl (sX12_bits _  ) (fun r h0 hq => ?_)
        obtain ⟨rfl, hh⟩ := hq
        replace hh := hh.symm
        subst hh
        refine zt_istore (L' := [zr 5 0, zi x1, zi x2, zi x3, zl x4, zu, zl x6, zu, zi x8, zl 1, zu, zi (bitsI x8)]) kX12_bombs_124 (by decide) rfl ?_
        exact H
      · replace H := H.2 c
        refine zt_goto kX12_bombs_113 ?_
        refine zt_iinc (v := (x8 + 1)) (L' := [zr 5 0, zi x1, zi x2, zi x3, zl x4, zu, zl x6, zu, zi (x8 + 1), zu, zu, zu]) kX12_bombs_162 rfl rfl (by decide) rfl ?_
        refine zt_goto kX12_bombs_165 ?_
        exact H

set_option maxRecDepth 10000 in
theorem wX12_bombs_126 {G : ZG} {d : Nat} {h : ZH} {Q : Option ZV → ZH → Prop} {x1 : Int32} {x2 : Int32} {x3 : Int32} {x4 : Int64} {x6 : Int64} {x8 : Int32} {x9 : Int64} {x11 : Int32} 
  (H : ((bitsI (h.1 30 0 0)) ≤ x11 → zT G (d + 7) mX12_bombs 72 [zr 5 0, zi x1, zi x2, zi x3, zl (x4 + x9), zu, zl x6, zu, zi (x8 + 1), zu, zu, zu] [] h Q) ∧ (¬ (bitsI (h.1 30 0 0)) ≤ x11 → zT G (d + 7) mX12_bombs 126 [zr 5 0, zi x1, zi x2, zi x3, zl x4, zu, zl x6, zu, zi x8, zl (x9 * ((x1 - 1)).toInt64), zu, zi (x11 + 1)] [] h Q)) :
  zT G (d + 7) mX12_bombs 126 [zr 5 0, zi x1, zi x2, zi x3, zl x4, zu, zl x6, zu, zi x8, zl x9, zu, zi x11] [] h Q := by
  refine zt_iload kX12_bombs_126 rfl ?_
  refine zt_aload_n kX12_bombs_128 rfl ?_
  refine zt_get (v := zr 30 0) kX12_bombs_129 fRX12_9 rfl (by decide) rfl ?_
  refine zt_iconst (v := 0) kX12_bombs_132 rfl ?_
  refine zt_ialdc 0 rfl kX12_bombs_133 rfl (by decide) (zvp_dec (by decide)) ?_
  refine zt_cS (as := [zi (h.1 30 0 0)]) kX12_bombs_134 sRX12_107 rfl (by simp) rfl (sX12_bits _  ) (fun r h0 hq => ?_)
  obtain ⟨rfl, hh⟩ := hq
  replace hh := hh.symm
  subst hh
  refine zt_icmp_ge kX12_bombs_137 (fun c => ?_) (fun c => ?_)
  · replace H := H.1 c
    refine zt_lload kX12_bombs_155 rfl ?_
    refine zt_lload kX12_bombs_157 rfl ?_
    refine zt_ladd kX12_bombs_159 ?_
    refine zt_lstore (L' := [zr 5 0, zi x1, zi x2, zi x3, zl (x4 + x9), zu, zl x6, zu, zi x8, zl x9, zu, zi x11]) kX12_bombs_160 (by decide) rfl ?_
    refine zt_iinc (v := (x8 + 1)) (L' := [zr 5 0, zi x1, zi x2, zi x3, zl (x4 + x9), zu, zl x6, zu, zi (x8 + 1), zl x9, zu, zi x11]) kX12_bombs_162 rfl rfl (by decide) rfl ?_
    refine zt_goto kX12_bombs_165 ?_
    exact zt_sub [zr 5 0, zi x1, zi x2, zi x3, zl (x4 + x9), zu, zl x6, zu, zi (x8 + 1), zu, zu, zu] ⟨rfl, ⟨rfl, ⟨rfl, ⟨rfl, ⟨rfl, ⟨rfl, ⟨rfl, trivial⟩⟩⟩⟩⟩⟩⟩ H
  · replace H := H.2 c
    refine zt_lload kX12_bombs_140 rfl ?_
    refine zt_iload_n kX12_bombs_142 rfl ?_
    refine zt_iconst (v := 1) kX12_bombs_143 rfl ?_
    refine zt_isub kX12_bombs_144 ?_
    refine zt_i2l kX12_bombs_145 ?_
    refine zt_lmul kX12_bombs_146 ?_
    refine zt_lstore (L' := [zr 5 0, zi x1, zi x2, zi x3, zl x4, zu, zl x6, zu, zi x8, zl (x9 * ((x1 - 1)).toInt64), zu, zi x11]) kX12_bombs_147 (by decide) rfl ?_
    refine zt_iinc (v := (x11 + 1)) (L' := [zr 5 0, zi x1, zi x2, zi x3, zl x4, zu, zl x6, zu, zi x8, zl (x9 * ((x1 - 1)).toInt64), zu, zi (x11 + 1)]) kX12_bombs_149 rfl rfl (by decide) rfl ?_
    refine zt_goto kX12_bombs_152 ?_
    exact H

theorem kX12_partOf_0 : zD cX12_partOf 0 1 (.lload_n 0) 1 := by decide +kernel
theorem kX12_partOf_1 : zD cX12_partOf 1 2 (.lconst 0) 1 := by decide +kernel
theorem kX12_partOf_2 : zD cX12_partOf 2 3 (.lcmp) 1 := by decide +kernel
theorem kX12_partOf_3 : zB cX12_partOf 3 6 10 (.ifCond .ne 7) 7 := by decide +kernel
theorem kX12_partOf_6 : zD cX12_partOf 6 8 (.iload 4) 2 := by decide +kernel
theorem kX12_partOf_8 : zD cX12_partOf 8 9 (.i2l) 1 := by decide +kernel
theorem kX12_partOf_9 : zD cX12_partOf 9 10 (.lreturn) 1 := by decide +kernel
theorem kX12_partOf_10 : zD cX12_partOf 10 12 (.iload 4) 2 := by decide +kernel
theorem kX12_partOf_12 : zB cX12_partOf 12 15 19 (.ifCond .ne 7) 7 := by decide +kernel
theorem kX12_partOf_15 : zD cX12_partOf 15 16 (.lload_n 0) 1 := by decide +kernel
theorem kX12_partOf_16 : zB cX12_partOf 16 19 20 (.goto 4) 4 := by decide +kernel
theorem kX12_partOf_19 : zD cX12_partOf 19 20 (.lload_n 2) 1 := by decide +kernel
theorem kX12_partOf_20 : zD cX12_partOf 20 21 (.lload_n 0) 1 := by decide +kernel
theorem kX12_partOf_21 : zD cX12_partOf 21 22 (.lload_n 2) 1 := by decide +kernel
theorem kX12_partOf_22 : zD cX12_partOf 22 25 (.invokestatic 180) 3 := by decide +kernel
theorem kX12_partOf_25 : zD cX12_partOf 25 26 (.ldiv) 1 := by decide +kernel
theorem kX12_partOf_26 : zD cX12_partOf 26 27 (.lreturn) 1 := by decide +kernel
set_option maxRecDepth 10000 in
theorem wX12_partOf_0 {G : ZG} {d : Nat} {h : ZH} {Q : Option ZV → ZH → Prop} {x0 : Int64} {x2 : Int64} {x4 : Int32} 
  (H : (¬ (lg_cmp x0 0) = 0 → (¬ x4 = 0 → zC G (d + 1) mX12_gcd [zl x0, zl x2] h (fun r2 h1 => ∃ y3 : Int64, r2 = some (zl y3) ∧ (¬ y3 = (0 : Int64)) ∧ Q (some (zl (x2 / y3))) h1)) ∧ (x4 = 0 → zC G (d + 1) mX12_gcd [zl x0, zl x2] h (fun r5 h4 => ∃ y6 : Int64, r5 = some (zl y6) ∧ (¬ y6 = (0 : Int64)) ∧ Q (some (zl (x0 / y6))) h4))) ∧ ((lg_cmp x0 0) = 0 → Q (some (zl (x4).toInt64)) h)) :
  zT G (d + 2) mX12_partOf 0 [zl x0, zu, zl x2, zu, zi x4] [] h Q := by
  refine zt_lload_n kX12_partOf_0 rfl ?_
  refine zt_lconst (v := 0) kX12_partOf_1 rfl ?_
  refine zt_lcmp kX12_partOf_2 ?_
  refine zt_if_ne kX12_partOf_3 (fun c => ?_) (fun c => ?_)
  · replace H := H.1 c
    refine zt_iload kX12_partOf_10 rfl ?_
    refine zt_if_ne kX12_partOf_12 (fun c => ?_) (fun c => ?_)
    · replace H := H.1 c
      refine zt_lload_n kX12_partOf_19 rfl ?_
      refine zt_lload_n kX12_partOf_20 rfl ?_
      refine zt_lload_n kX12_partOf_21 rfl ?_
      refine zt_cS (as := [zl x0, zl x2]) kX12_partOf_22 sRX12_180 rfl (by simp) rfl H (fun r2 h1 H => ?_)
      obtain ⟨y3, rfl, H⟩ := H
      obtain ⟨hne, H⟩ := H
      refine zt_ldiv kX12_partOf_25 hne ?_
      exact zt_lret kX12_partOf_26 rfl H
    · replace H := H.2 c
      refine zt_lload_n kX12_partOf_15 rfl ?_
      refine zt_goto kX12_partOf_16 ?_
      refine zt_lload_n kX12_partOf_20 rfl ?_
      refine zt_lload_n kX12_partOf_21 rfl ?_
      refine zt_cS (as := [zl x0, zl x2]) kX12_partOf_22 sRX12_180 rfl (by simp) rfl H (fun r5 h4 H => ?_)
      obtain ⟨y6, rfl, H⟩ := H
      obtain ⟨hne, H⟩ := H
      refine zt_ldiv kX12_partOf_25 hne ?_
      exact zt_lret kX12_partOf_26 rfl H
  · replace H := H.2 c
    refine zt_iload kX12_partOf_6 rfl ?_
    refine zt_i2l kX12_partOf_8 ?_
    exact zt_lret kX12_partOf_9 rfl H

theorem kX11_felled_0 : zD cX11_felled 0 1 (.iload_n 1) 1 := by decide +kernel
theorem kX11_felled_1 : zD cX11_felled 1 4 (.invokestatic 163) 3 := by decide +kernel
theorem kX11_felled_4 : zB cX11_felled 4 7 18 (.ifCond .eq 14) 14 := by decide +kernel
theorem kX11_felled_7 : zD cX11_felled 7 8 (.aload_n 0) 1 := by decide +kernel
theorem kX11_felled_8 : zD cX11_felled 8 11 (.getfield 40) 3 := by decide +kernel
theorem kX11_felled_11 : zD cX11_felled 11 12 (.iload_n 1) 1 := by decide +kernel
theorem kX11_felled_12 : zD cX11_felled 12 15 (.invokevirtual 254) 3 := by decide +kernel
theorem kX11_felled_15 : zB cX11_felled 15 18 19 (.goto 4) 4 := by decide +kernel
theorem kX11_felled_18 : zD cX11_felled 18 19 (.iconst (-1)) 1 := by decide +kernel
theorem kX11_felled_19 : zD cX11_felled 19 20 (.ireturn) 1 := by decide +kernel
set_option maxRecDepth 10000 in
theorem wX11_felled_0 {G : ZG} {d : Nat} {h : ZH} {Q : Option ZV → ZH → Prop} {x1 : Int32} 
  (H : (¬ (1 ≤ x1 ∧ x1 ≤ 12) → Q (some (zi (-1))) h) ∧ ((1 ≤ x1 ∧ x1 ≤ 12) → zC G (d + 6) mX3_fewestTakings [zr 1 0, zi x1] h (fun r2 h1 => ∃ y3 : Int32, r2 = some (zi y3) ∧ Q (some (zi y3)) h1))) :
  zT G (d + 7) mX11_felled 0 [zr 0 0, zi x1] [] h Q := by
  refine zt_iload_n kX11_felled_0 rfl ?_
  refine zt_cS (as := [zi x1]) kX11_felled_1 sRX11_163 rfl (by simp) rfl (sX11_isSomeStones _  ) (fun r h0 hq => ?_)
  obtain ⟨rfl, hh⟩ := hq
  replace hh := hh.symm
  subst hh
  refine zt_ifb_eq kX11_felled_4 (fun c => ?_) (fun c => ?_)
  · replace H := H.1 c
    refine zt_iconst (v := (-1)) kX11_felled_18 rfl ?_
    exact zt_iret kX11_felled_19 rfl H
  · replace H := H.2 c
    refine zt_aload_n kX11_felled_7 rfl ?_
    refine zt_get (v := zr 1 0) kX11_felled_8 fRX11_40 rfl (by decide) rfl ?_
    refine zt_iload_n kX11_felled_11 rfl ?_
    refine zt_cV (as := [zi x1]) kX11_felled_12 sRX11_254 rfl (by decide) rfl (by simp) rfl H (fun r2 h1 H => ?_)
    obtain ⟨y3, rfl, H⟩ := H
    refine zt_goto kX11_felled_15 ?_
    exact zt_iret kX11_felled_19 rfl H

theorem kX3_fewestTakings_0 : zD cX3_fewestTakings 0 1 (.aload_n 0) 1 := by decide +kernel
theorem kX3_fewestTakings_1 : zD cX3_fewestTakings 1 4 (.getfield 22) 3 := by decide +kernel
theorem kX3_fewestTakings_4 : zD cX3_fewestTakings 4 5 (.iconst (-1)) 1 := by decide +kernel
theorem kX3_fewestTakings_5 : zD cX3_fewestTakings 5 8 (.invokestatic 39) 3 := by decide +kernel
theorem kX3_fewestTakings_8 : zD cX3_fewestTakings 8 9 (.aload_n 0) 1 := by decide +kernel
theorem kX3_fewestTakings_9 : zD cX3_fewestTakings 9 12 (.getfield 22) 3 := by decide +kernel
theorem kX3_fewestTakings_12 : zD cX3_fewestTakings 12 13 (.aload_n 0) 1 := by decide +kernel
theorem kX3_fewestTakings_13 : zD cX3_fewestTakings 13 16 (.getfield 12) 3 := by decide +kernel
theorem kX3_fewestTakings_16 : zD cX3_fewestTakings 16 19 (.getfield 49) 3 := by decide +kernel
theorem kX3_fewestTakings_19 : zD cX3_fewestTakings 19 20 (.iconst 0) 1 := by decide +kernel
theorem kX3_fewestTakings_20 : zD cX3_fewestTakings 20 21 (.iastore) 1 := by decide +kernel
theorem kX3_fewestTakings_21 : zD cX3_fewestTakings 21 23 (.bipush (-4)) 2 := by decide +kernel
theorem kX3_fewestTakings_23 : zD cX3_fewestTakings 23 24 (.istore_n 2) 1 := by decide +kernel
theorem kX3_fewestTakings_24 : zD cX3_fewestTakings 24 25 (.aload_n 0) 1 := by decide +kernel
theorem kX3_fewestTakings_25 : zD cX3_fewestTakings 25 28 (.getfield 12) 3 := by decide +kernel
theorem kX3_fewestTakings_28 : zD cX3_fewestTakings 28 31 (.getfield 49) 3 := by decide +kernel
theorem kX3_fewestTakings_31 : zD cX3_fewestTakings 31 32 (.istore_n 3) 1 := by decide +kernel
theorem kX3_fewestTakings_32 : zD cX3_fewestTakings 32 33 (.iload_n 3) 1 := by decide +kernel
theorem kX3_fewestTakings_33 : zB cX3_fewestTakings 33 36 60 (.ifCond .le 27) 27 := by decide +kernel
theorem kX3_fewestTakings_36 : zD cX3_fewestTakings 36 37 (.aload_n 0) 1 := by decide +kernel
theorem kX3_fewestTakings_37 : zD cX3_fewestTakings 37 40 (.getfield 22) 3 := by decide +kernel
theorem kX3_fewestTakings_40 : zD cX3_fewestTakings 40 41 (.iload_n 3) 1 := by decide +kernel
theorem kX3_fewestTakings_41 : zD cX3_fewestTakings 41 42 (.iaload) 1 := by decide +kernel
theorem kX3_fewestTakings_42 : zD cX3_fewestTakings 42 43 (.iconst (-1)) 1 := by decide +kernel
theorem kX3_fewestTakings_43 : zB cX3_fewestTakings 43 46 49 (.if_icmp .ne 6) 6 := by decide +kernel
theorem kX3_fewestTakings_46 : zB cX3_fewestTakings 46 49 54 (.goto 8) 8 := by decide +kernel
theorem kX3_fewestTakings_49 : zD cX3_fewestTakings 49 50 (.aload_n 0) 1 := by decide +kernel
theorem kX3_fewestTakings_50 : zD cX3_fewestTakings 50 51 (.iload_n 3) 1 := by decide +kernel
theorem kX3_fewestTakings_51 : zD cX3_fewestTakings 51 54 (.invokevirtual 157) 3 := by decide +kernel
theorem kX3_fewestTakings_54 : zD cX3_fewestTakings 54 57 (.iinc 3 (-1)) 3 := by decide +kernel
theorem kX3_fewestTakings_57 : zB cX3_fewestTakings 57 60 32 (.goto (-25)) (-25) := by decide +kernel
theorem kX3_fewestTakings_60 : zD cX3_fewestTakings 60 61 (.iconst 0) 1 := by decide +kernel
theorem kX3_fewestTakings_61 : zD cX3_fewestTakings 61 62 (.istore_n 3) 1 := by decide +kernel
theorem kX3_fewestTakings_62 : zD cX3_fewestTakings 62 63 (.iload_n 3) 1 := by decide +kernel
theorem kX3_fewestTakings_63 : zD cX3_fewestTakings 63 66 (.sipush 4095) 3 := by decide +kernel
theorem kX3_fewestTakings_66 : zB cX3_fewestTakings 66 69 141 (.if_icmp .gt 75) 75 := by decide +kernel
theorem kX3_fewestTakings_69 : zD cX3_fewestTakings 69 70 (.aload_n 0) 1 := by decide +kernel
theorem kX3_fewestTakings_70 : zD cX3_fewestTakings 70 73 (.getfield 22) 3 := by decide +kernel
theorem kX3_fewestTakings_73 : zD cX3_fewestTakings 73 74 (.iload_n 3) 1 := by decide +kernel
theorem kX3_fewestTakings_74 : zD cX3_fewestTakings 74 75 (.iaload) 1 := by decide +kernel
theorem kX3_fewestTakings_75 : zD cX3_fewestTakings 75 76 (.iconst (-1)) 1 := by decide +kernel
theorem kX3_fewestTakings_76 : zB cX3_fewestTakings 76 79 82 (.if_icmp .ne 6) 6 := by decide +kernel
theorem kX3_fewestTakings_79 : zB cX3_fewestTakings 79 82 135 (.goto 56) 56 := by decide +kernel
theorem kX3_fewestTakings_82 : zD cX3_fewestTakings 82 83 (.aload_n 0) 1 := by decide +kernel
theorem kX3_fewestTakings_83 : zD cX3_fewestTakings 83 86 (.getfield 12) 3 := by decide +kernel
theorem kX3_fewestTakings_86 : zD cX3_fewestTakings 86 89 (.getfield 49) 3 := by decide +kernel
theorem kX3_fewestTakings_89 : zD cX3_fewestTakings 89 92 (.invokestatic 56) 3 := by decide +kernel
theorem kX3_fewestTakings_92 : zD cX3_fewestTakings 92 93 (.iload_n 3) 1 := by decide +kernel
theorem kX3_fewestTakings_93 : zD cX3_fewestTakings 93 96 (.invokestatic 56) 3 := by decide +kernel
theorem kX3_fewestTakings_96 : zD cX3_fewestTakings 96 97 (.isub) 1 := by decide +kernel
theorem kX3_fewestTakings_97 : zD cX3_fewestTakings 97 98 (.aload_n 0) 1 := by decide +kernel
theorem kX3_fewestTakings_98 : zD cX3_fewestTakings 98 101 (.getfield 22) 3 := by decide +kernel
theorem kX3_fewestTakings_101 : zD cX3_fewestTakings 101 102 (.iload_n 3) 1 := by decide +kernel
theorem kX3_fewestTakings_102 : zD cX3_fewestTakings 102 103 (.iaload) 1 := by decide +kernel
theorem kX3_fewestTakings_103 : zD cX3_fewestTakings 103 104 (.isub) 1 := by decide +kernel
theorem kX3_fewestTakings_104 : zD cX3_fewestTakings 104 106 (.istore 4) 2 := by decide +kernel
theorem kX3_fewestTakings_106 : zD cX3_fewestTakings 106 108 (.iload 4) 2 := by decide +kernel
theorem kX3_fewestTakings_108 : zD cX3_fewestTakings 108 109 (.iload_n 1) 1 := by decide +kernel
theorem kX3_fewestTakings_109 : zB cX3_fewestTakings 109 112 135 (.if_icmp .lt 26) 26 := by decide +kernel
theorem kX3_fewestTakings_112 : zD cX3_fewestTakings 112 113 (.iload_n 2) 1 := by decide +kernel
theorem kX3_fewestTakings_113 : zD cX3_fewestTakings 113 115 (.bipush (-4)) 2 := by decide +kernel
theorem kX3_fewestTakings_115 : zB cX3_fewestTakings 115 118 128 (.if_icmp .eq 13) 13 := by decide +kernel
theorem kX3_fewestTakings_118 : zD cX3_fewestTakings 118 119 (.aload_n 0) 1 := by decide +kernel
theorem kX3_fewestTakings_119 : zD cX3_fewestTakings 119 122 (.getfield 22) 3 := by decide +kernel
theorem kX3_fewestTakings_122 : zD cX3_fewestTakings 122 123 (.iload_n 3) 1 := by decide +kernel
theorem kX3_fewestTakings_123 : zD cX3_fewestTakings 123 124 (.iaload) 1 := by decide +kernel
theorem kX3_fewestTakings_124 : zD cX3_fewestTakings 124 125 (.iload_n 2) 1 := by decide +kernel
theorem kX3_fewestTakings_125 : zB cX3_fewestTakings 125 128 135 (.if_icmp .ge 10) 10 := by decide +kernel
theorem kX3_fewestTakings_128 : zD cX3_fewestTakings 128 129 (.aload_n 0) 1 := by decide +kernel
theorem kX3_fewestTakings_129 : zD cX3_fewestTakings 129 132 (.getfield 22) 3 := by decide +kernel
theorem kX3_fewestTakings_132 : zD cX3_fewestTakings 132 133 (.iload_n 3) 1 := by decide +kernel
theorem kX3_fewestTakings_133 : zD cX3_fewestTakings 133 134 (.iaload) 1 := by decide +kernel
theorem kX3_fewestTakings_134 : zD cX3_fewestTakings 134 135 (.istore_n 2) 1 := by decide +kernel
theorem kX3_fewestTakings_135 : zD cX3_fewestTakings 135 138 (.iinc 3 1) 3 := by decide +kernel
theorem kX3_fewestTakings_138 : zB cX3_fewestTakings 138 141 62 (.goto (-76)) (-76) := by decide +kernel
theorem kX3_fewestTakings_141 : zD cX3_fewestTakings 141 142 (.iload_n 2) 1 := by decide +kernel
theorem kX3_fewestTakings_142 : zD cX3_fewestTakings 142 143 (.ireturn) 1 := by decide +kernel
set_option maxRecDepth 10000 in
theorem wX3_fewestTakings_0 {G : ZG} {d : Nat} {h : ZH} {Q : Option ZV → ZH → Prop} {x1 : Int32} 
  (H : zC G (d + 5) mJ7_fill_53178 [zr 18 0, zi (-1)] h (fun r2 h1 => r2 = none ∧ vp_in (h1.1 2 0 6) 4096 ∧ (∀ h3 : ZH, h3 = zs1 h1 18 0 (h1.1 2 0 6).toNatClampNeg 0 → zT G (d + 6) mX3_fewestTakings 32 [zr 1 0, zi x1, zi (-4), zi (h3.1 2 0 6), zu] [] h3 Q))) :
  zT G (d + 6) mX3_fewestTakings 0 [zr 1 0, zi x1, zu, zu, zu] [] h Q := by
  refine zt_aload_n kX3_fewestTakings_0 rfl ?_
  refine zt_get (v := zr 18 0) kX3_fewestTakings_1 fRX3_22 rfl (by decide) rfl ?_
  refine zt_iconst (v := (-1)) kX3_fewestTakings_4 rfl ?_
  refine zt_cS (as := [zr 18 0, zi (-1)]) kX3_fewestTakings_5 sRX3_39 rfl (by simp) rfl H (fun r2 h1 H => ?_)
  obtain ⟨rfl, H⟩ := H
  refine zt_aload_n kX3_fewestTakings_8 rfl ?_
  refine zt_get (v := zr 18 0) kX3_fewestTakings_9 fRX3_22 rfl (by decide) rfl ?_
  refine zt_aload_n kX3_fewestTakings_12 rfl ?_
  refine zt_get (v := zr 2 0) kX3_fewestTakings_13 fRX3_12 rfl (by decide) rfl ?_
  refine zt_get (v := zi (h1.1 2 0 6)) kX3_fewestTakings_16 fRX3_49 rfl (by decide) rfl ?_
  refine zt_iconst (v := 0) kX3_fewestTakings_19 rfl ?_
  obtain ⟨hv, H⟩ := H
  refine zt_iast kX3_fewestTakings_20 rfl (by decide) hv ?_
  refine zt_heap (fun h3 eh3 => ?_)
  replace H := H h3 eh3
  refine zt_bipush (v := (-4)) kX3_fewestTakings_21 rfl ?_
  refine zt_istore_n (L' := [zr 1 0, zi x1, zi (-4), zu, zu]) kX3_fewestTakings_23 (by decide) rfl ?_
  refine zt_aload_n kX3_fewestTakings_24 rfl ?_
  refine zt_get (v := zr 2 0) kX3_fewestTakings_25 fRX3_12 rfl (by decide) rfl ?_
  refine zt_get (v := zi (h3.1 2 0 6)) kX3_fewestTakings_28 fRX3_49 rfl (by decide) rfl ?_
  refine zt_istore_n (L' := [zr 1 0, zi x1, zi (-4), zi (h3.1 2 0 6), zu]) kX3_fewestTakings_31 (by decide) rfl ?_
  exact H

set_option maxRecDepth 10000 in
theorem wX3_fewestTakings_32 {G : ZG} {d : Nat} {h : ZH} {Q : Option ZV → ZH → Prop} {x1 : Int32} {x2 : Int32} {x3 : Int32} 
  (H : (x3 ≤ 0 → zT G (d + 6) mX3_fewestTakings 62 [zr 1 0, zi x1, zi x2, zi 0, zu] [] h Q) ∧ (¬ x3 ≤ 0 → vp_in x3 4096 ∧ (¬ (h.1 18 0 x3.toNatClampNeg) = (-1) → zC G (d + 5) mX3_spreadTakings [zr 1 0, zi x3] h (fun r2 h1 => r2 = none ∧ zT G (d + 6) mX3_fewestTakings 32 [zr 1 0, zi x1, zi x2, zi (x3 + (-1)), zu] [] h1 Q)) ∧ ((h.1 18 0 x3.toNatClampNeg) = (-1) → zT G (d + 6) mX3_fewestTakings 32 [zr 1 0, zi x1, zi x2, zi (x3 + (-1)), zu] [] h Q))) :
  zT G (d + 6) mX3_fewestTakings 32 [zr 1 0, zi x1, zi x2, zi x3, zu] [] h Q := by
  refine zt_iload_n kX3_fewestTakings_32 rfl ?_
  refine zt_if_le kX3_fewestTakings_33 (fun c => ?_) (fun c => ?_)
  · replace H := H.1 c
    refine zt_iconst (v := 0) kX3_fewestTakings_60 rfl ?_
    refine zt_istore_n (L' := [zr 1 0, zi x1, zi x2, zi 0, zu]) kX3_fewestTakings_61 (by decide) rfl ?_
    exact H
  · replace H := H.2 c
    refine zt_aload_n kX3_fewestTakings_36 rfl ?_
    refine zt_get (v := zr 18 0) kX3_fewestTakings_37 fRX3_22 rfl (by decide) rfl ?_
    refine zt_iload_n kX3_fewestTakings_40 rfl ?_
    obtain ⟨hv, H⟩ := H
    refine zt_iald kX3_fewestTakings_41 rfl (by decide) hv ?_
    refine zt_iconst (v := (-1)) kX3_fewestTakings_42 rfl ?_
    refine zt_icmp_ne kX3_fewestTakings_43 (fun c => ?_) (fun c => ?_)
    · replace H := H.1 c
      refine zt_aload_n kX3_fewestTakings_49 rfl ?_
      refine zt_iload_n kX3_fewestTakings_50 rfl ?_
      refine zt_cV (as := [zi x3]) kX3_fewestTakings_51 sRX3_157 rfl (by decide) rfl (by simp) rfl H (fun r2 h1 H => ?_)
      obtain ⟨rfl, H⟩ := H
      refine zt_iinc (v := (x3 + (-1))) (L' := [zr 1 0, zi x1, zi x2, zi (x3 + (-1)), zu]) kX3_fewestTakings_54 rfl rfl (by decide) rfl ?_
      refine zt_goto kX3_fewestTakings_57 ?_
      exact H
    · replace H := H.2 c
      refine zt_goto kX3_fewestTakings_46 ?_
      refine zt_iinc (v := (x3 + (-1))) (L' := [zr 1 0, zi x1, zi x2, zi (x3 + (-1)), zu]) kX3_fewestTakings_54 rfl rfl (by decide) rfl ?_
      refine zt_goto kX3_fewestTakings_57 ?_
      exact H

set_option maxRecDepth 10000 in
theorem wX3_fewestTakings_62 {G : ZG} {d : Nat} {h : ZH} {Q : Option ZV → ZH → Prop} {x1 : Int32} {x2 : Int32} {x3 : Int32} 
  (H : (4095 < x3 → Q (some (zi x2)) h) ∧ (¬ 4095 < x3 → vp_in x3 4096 ∧ (¬ (h.1 18 0 x3.toNatClampNeg) = (-1) → vp_in x3 4096 ∧ ∀ y1 : Int32, y1 = (((bcI (h.1 2 0 6)) - (bcI x3)) - (h.1 18 0 x3.toNatClampNeg)) → (y1 < x1 → zT G (d + 6) mX3_fewestTakings 62 [zr 1 0, zi x1, zi x2, zi (x3 + 1), zu] [] h Q) ∧ (¬ y1 < x1 → (x2 = (-4) → vp_in x3 4096 ∧ zT G (d + 6) mX3_fewestTakings 62 [zr 1 0, zi x1, zi (h.1 18 0 x3.toNatClampNeg), zi (x3 + 1), zu] [] h Q) ∧ (¬ x2 = (-4) → vp_in x3 4096 ∧ (x2 ≤ (h.1 18 0 x3.toNatClampNeg) → zT G (d + 6) mX3_fewestTakings 62 [zr 1 0, zi x1, zi x2, zi (x3 + 1), zu] [] h Q) ∧ (¬ x2 ≤ (h.1 18 0 x3.toNatClampNeg) → vp_in x3 4096 ∧ zT G (d + 6) mX3_fewestTakings 62 [zr 1 0, zi x1, zi (h.1 18 0 x3.toNatClampNeg), zi (x3 + 1), zu] [] h Q)))) ∧ ((h.1 18 0 x3.toNatClampNeg) = (-1) → zT G (d + 6) mX3_fewestTakings 62 [zr 1 0, zi x1, zi x2, zi (x3 + 1), zu] [] h Q))) :
  zT G (d + 6) mX3_fewestTakings 62 [zr 1 0, zi x1, zi x2, zi x3, zu] [] h Q := by
  refine zt_iload_n kX3_fewestTakings_62 rfl ?_
  refine zt_sipush (v := 4095) kX3_fewestTakings_63 rfl ?_
  refine zt_icmp_gt kX3_fewestTakings_66 (fun c => ?_) (fun c => ?_)
  · replace H := H.1 c
    refine zt_iload_n kX3_fewestTakings_141 rfl ?_
    exact zt_iret kX3_fewestTakings_142 rfl H
  · replace H := H.2 c
    refine zt_aload_n kX3_fewestTakings_69 rfl ?_
    refine zt_get (v := zr 18 0) kX3_fewestTakings_70 fRX3_22 rfl (by decide) rfl ?_
    refine zt_iload_n kX3_fewestTakings_73 rfl ?_
    obtain ⟨hv, H⟩ := H
    refine zt_iald kX3_fewestTakings_74 rfl (by decide) hv ?_
    refine zt_iconst (v := (-1)) kX3_fewestTakings_75 rfl ?_
    refine zt_icmp_ne kX3_fewestTakings_76 (fun c => ?_) (fun c => ?_)
    · replace H := H.1 c
      refine zt_aload_n kX3_fewestTakings_82 rfl ?_
      refine zt_get (v := zr 2 0) kX3_fewestTakings_83 fRX3_12 rfl (by decide) rfl ?_
      refine zt_get (v := zi (h.1 2 0 6)) kX3_fewestTakings_86 fRX3_49 rfl (by decide) rfl ?_
      refine zt_cS (as := [zi (h.1 2 0 6)]) kX3_fewestTakings_89 sRX3_56 rfl (by simp) rfl (sJ6_bitCount_0f7a4 _  ) (fun r h0 hq => ?_)
      obtain ⟨rfl, hh⟩ := hq
      replace hh := hh.symm
      subst hh
      refine zt_iload_n kX3_fewestTakings_92 rfl ?_
      refine zt_cS (as := [zi x3]) kX3_fewestTakings_93 sRX3_56 rfl (by simp) rfl (sJ6_bitCount_0f7a4 _  ) (fun r h0 hq => ?_)
      obtain ⟨rfl, hh⟩ := hq
      replace hh := hh.symm
      subst hh
      refine zt_isub kX3_fewestTakings_96 ?_
      refine zt_aload_n kX3_fewestTakings_97 rfl ?_
      refine zt_get (v := zr 18 0) kX3_fewestTakings_98 fRX3_22 rfl (by decide) rfl ?_
      refine zt_iload_n kX3_fewestTakings_101 rfl ?_
      obtain ⟨hv, H⟩ := H
      refine zt_iald kX3_fewestTakings_102 rfl (by decide) hv ?_
      refine zt_isub kX3_fewestTakings_103 ?_
      refine zt_topi (fun y1 ey1 => ?_)
      replace H := H y1 ey1
      refine zt_istore (L' := [zr 1 0, zi x1, zi x2, zi x3, zi y1]) kX3_fewestTakings_104 (by decide) rfl ?_
      refine zt_iload kX3_fewestTakings_106 rfl ?_
      refine zt_iload_n kX3_fewestTakings_108 rfl ?_
      refine zt_icmp_lt kX3_fewestTakings_109 (fun c => ?_) (fun c => ?_)
      · replace H := H.1 c
        refine zt_iinc (v := (x3 + 1)) (L' := [zr 1 0, zi x1, zi x2, zi (x3 + 1), zi y1]) kX3_fewestTakings_135 rfl rfl (by decide) rfl ?_
        refine zt_goto kX3_fewestTakings_138 ?_
        exact zt_sub [zr 1 0, zi x1, zi x2, zi (x3 + 1), zu] ⟨rfl, ⟨rfl, ⟨rfl, ⟨rfl, trivial⟩⟩⟩⟩ H
      · replace H := H.2 c
        refine zt_iload_n kX3_fewestTakings_112 rfl ?_
        refine zt_bipush (v := (-4)) kX3_fewestTakings_113 rfl ?_
        refine zt_icmp_eq kX3_fewestTakings_115 (fun c => ?_) (fun c => ?_)
        · replace H := H.1 c
          refine zt_aload_n kX3_fewestTakings_128 rfl ?_
          refine zt_get (v := zr 18 0) kX3_fewestTakings_129 fRX3_22 rfl (by decide) rfl ?_
          refine zt_iload_n kX3_fewestTakings_132 rfl ?_
          obtain ⟨hv, H⟩ := H
          refine zt_iald kX3_fewestTakings_133 rfl (by decide) hv ?_
          refine zt_istore_n (L' := [zr 1 0, zi x1, zi (h.1 18 0 x3.toNatClampNeg), zi x3, zi y1]) kX3_fewestTakings_134 (by decide) rfl ?_
          refine zt_iinc (v := (x3 + 1)) (L' := [zr 1 0, zi x1, zi (h.1 18 0 x3.toNatClampNeg), zi (x3 + 1), zi y1]) kX3_fewestTakings_135 rfl rfl (by decide) rfl ?_
          refine zt_goto kX3_fewestTakings_138 ?_
          exact zt_sub [zr 1 0, zi x1, zi (h.1 18 0 x3.toNatClampNeg), zi (x3 + 1), zu] ⟨rfl, ⟨rfl, ⟨rfl, ⟨rfl, trivial⟩⟩⟩⟩ H
        · replace H := H.2 c
          refine zt_aload_n kX3_fewestTakings_118 rfl ?_
          refine zt_get (v := zr 18 0) kX3_fewestTakings_119 fRX3_22 rfl (by decide) rfl ?_
          refine zt_iload_n kX3_fewestTakings_122 rfl ?_
          obtain ⟨hv, H⟩ := H
          refine zt_iald kX3_fewestTakings_123 rfl (by decide) hv ?_
          refine zt_iload_n kX3_fewestTakings_124 rfl ?_
          refine zt_icmp_ge kX3_fewestTakings_125 (fun c => ?_) (fun c => ?_)
          · replace H := H.1 c
            refine zt_iinc (v := (x3 + 1)) (L' := [zr 1 0, zi x1, zi x2, zi (x3 + 1), zi y1]) kX3_fewestTakings_135 rfl rfl (by decide) rfl ?_
            refine zt_goto kX3_fewestTakings_138 ?_
            exact zt_sub [zr 1 0, zi x1, zi x2, zi (x3 + 1), zu] ⟨rfl, ⟨rfl, ⟨rfl, ⟨rfl, trivial⟩⟩⟩⟩ H
          · replace H := H.2 c
            refine zt_aload_n kX3_fewestTakings_128 rfl ?_
            refine zt_get (v := zr 18 0) kX3_fewestTakings_129 fRX3_22 rfl (by decide) rfl ?_
            refine zt_iload_n kX3_fewestTakings_132 rfl ?_
            obtain ⟨hv, H⟩ := H
            refine zt_iald kX3_fewestTakings_133 rfl (by decide) hv ?_
            refine zt_istore_n (L' := [zr 1 0, zi x1, zi (h.1 18 0 x3.toNatClampNeg), zi x3, zi y1]) kX3_fewestTakings_134 (by decide) rfl ?_
            refine zt_iinc (v := (x3 + 1)) (L' := [zr 1 0, zi x1, zi (h.1 18 0 x3.toNatClampNeg), zi (x3 + 1), zi y1]) kX3_fewestTakings_135 rfl rfl (by decide) rfl ?_
            refine zt_goto kX3_fewestTakings_138 ?_
            exact zt_sub [zr 1 0, zi x1, zi (h.1 18 0 x3.toNatClampNeg), zi (x3 + 1), zu] ⟨rfl, ⟨rfl, ⟨rfl, ⟨rfl, trivial⟩⟩⟩⟩ H
    · replace H := H.2 c
      refine zt_goto kX3_fewestTakings_79 ?_
      refine zt_iinc (v := (x3 + 1)) (L' := [zr 1 0, zi x1, zi x2, zi (x3 + 1), zu]) kX3_fewestTakings_135 rfl rfl (by decide) rfl ?_
      refine zt_goto kX3_fewestTakings_138 ?_
      exact H

theorem kX3_spreadTakings_0 : zD cX3_spreadTakings 0 1 (.iconst 0) 1 := by decide +kernel
theorem kX3_spreadTakings_1 : zD cX3_spreadTakings 1 2 (.istore_n 2) 1 := by decide +kernel
theorem kX3_spreadTakings_2 : zD cX3_spreadTakings 2 3 (.iload_n 2) 1 := by decide +kernel
theorem kX3_spreadTakings_3 : zD cX3_spreadTakings 3 5 (.bipush 12) 2 := by decide +kernel
theorem kX3_spreadTakings_5 : zB cX3_spreadTakings 5 8 78 (.if_icmp .ge 73) 73 := by decide +kernel
theorem kX3_spreadTakings_8 : zD cX3_spreadTakings 8 9 (.iload_n 1) 1 := by decide +kernel
theorem kX3_spreadTakings_9 : zD cX3_spreadTakings 9 10 (.iload_n 2) 1 := by decide +kernel
theorem kX3_spreadTakings_10 : zD cX3_spreadTakings 10 11 (.ishr) 1 := by decide +kernel
theorem kX3_spreadTakings_11 : zD cX3_spreadTakings 11 12 (.iconst 1) 1 := by decide +kernel
theorem kX3_spreadTakings_12 : zD cX3_spreadTakings 12 13 (.iand) 1 := by decide +kernel
theorem kX3_spreadTakings_13 : zB cX3_spreadTakings 13 16 19 (.ifCond .ne 6) 6 := by decide +kernel
theorem kX3_spreadTakings_16 : zB cX3_spreadTakings 16 19 72 (.goto 56) 56 := by decide +kernel
theorem kX3_spreadTakings_19 : zD cX3_spreadTakings 19 20 (.aload_n 0) 1 := by decide +kernel
theorem kX3_spreadTakings_20 : zD cX3_spreadTakings 20 21 (.iload_n 1) 1 := by decide +kernel
theorem kX3_spreadTakings_21 : zD cX3_spreadTakings 21 22 (.iconst 1) 1 := by decide +kernel
theorem kX3_spreadTakings_22 : zD cX3_spreadTakings 22 23 (.iload_n 2) 1 := by decide +kernel
theorem kX3_spreadTakings_23 : zD cX3_spreadTakings 23 24 (.ishl) 1 := by decide +kernel
theorem kX3_spreadTakings_24 : zD cX3_spreadTakings 24 25 (.iconst (-1)) 1 := by decide +kernel
theorem kX3_spreadTakings_25 : zD cX3_spreadTakings 25 26 (.ixor) 1 := by decide +kernel
theorem kX3_spreadTakings_26 : zD cX3_spreadTakings 26 27 (.iand) 1 := by decide +kernel
theorem kX3_spreadTakings_27 : zD cX3_spreadTakings 27 30 (.invokevirtual 52) 3 := by decide +kernel
theorem kX3_spreadTakings_30 : zD cX3_spreadTakings 30 31 (.istore_n 3) 1 := by decide +kernel
theorem kX3_spreadTakings_31 : zD cX3_spreadTakings 31 32 (.aload_n 0) 1 := by decide +kernel
theorem kX3_spreadTakings_32 : zD cX3_spreadTakings 32 35 (.getfield 22) 3 := by decide +kernel
theorem kX3_spreadTakings_35 : zD cX3_spreadTakings 35 36 (.iload_n 3) 1 := by decide +kernel
theorem kX3_spreadTakings_36 : zD cX3_spreadTakings 36 37 (.iaload) 1 := by decide +kernel
theorem kX3_spreadTakings_37 : zD cX3_spreadTakings 37 38 (.iconst (-1)) 1 := by decide +kernel
theorem kX3_spreadTakings_38 : zB cX3_spreadTakings 38 41 58 (.if_icmp .eq 20) 20 := by decide +kernel
theorem kX3_spreadTakings_41 : zD cX3_spreadTakings 41 42 (.aload_n 0) 1 := by decide +kernel
theorem kX3_spreadTakings_42 : zD cX3_spreadTakings 42 45 (.getfield 22) 3 := by decide +kernel
theorem kX3_spreadTakings_45 : zD cX3_spreadTakings 45 46 (.iload_n 3) 1 := by decide +kernel
theorem kX3_spreadTakings_46 : zD cX3_spreadTakings 46 47 (.iaload) 1 := by decide +kernel
theorem kX3_spreadTakings_47 : zD cX3_spreadTakings 47 48 (.aload_n 0) 1 := by decide +kernel
theorem kX3_spreadTakings_48 : zD cX3_spreadTakings 48 51 (.getfield 22) 3 := by decide +kernel
theorem kX3_spreadTakings_51 : zD cX3_spreadTakings 51 52 (.iload_n 1) 1 := by decide +kernel
theorem kX3_spreadTakings_52 : zD cX3_spreadTakings 52 53 (.iaload) 1 := by decide +kernel
theorem kX3_spreadTakings_53 : zD cX3_spreadTakings 53 54 (.iconst 1) 1 := by decide +kernel
theorem kX3_spreadTakings_54 : zD cX3_spreadTakings 54 55 (.iadd) 1 := by decide +kernel
theorem kX3_spreadTakings_55 : zB cX3_spreadTakings 55 58 72 (.if_icmp .le 17) 17 := by decide +kernel
theorem kX3_spreadTakings_58 : zD cX3_spreadTakings 58 59 (.aload_n 0) 1 := by decide +kernel
theorem kX3_spreadTakings_59 : zD cX3_spreadTakings 59 62 (.getfield 22) 3 := by decide +kernel
theorem kX3_spreadTakings_62 : zD cX3_spreadTakings 62 63 (.iload_n 3) 1 := by decide +kernel
theorem kX3_spreadTakings_63 : zD cX3_spreadTakings 63 64 (.aload_n 0) 1 := by decide +kernel
theorem kX3_spreadTakings_64 : zD cX3_spreadTakings 64 67 (.getfield 22) 3 := by decide +kernel
theorem kX3_spreadTakings_67 : zD cX3_spreadTakings 67 68 (.iload_n 1) 1 := by decide +kernel
theorem kX3_spreadTakings_68 : zD cX3_spreadTakings 68 69 (.iaload) 1 := by decide +kernel
theorem kX3_spreadTakings_69 : zD cX3_spreadTakings 69 70 (.iconst 1) 1 := by decide +kernel
theorem kX3_spreadTakings_70 : zD cX3_spreadTakings 70 71 (.iadd) 1 := by decide +kernel
theorem kX3_spreadTakings_71 : zD cX3_spreadTakings 71 72 (.iastore) 1 := by decide +kernel
theorem kX3_spreadTakings_72 : zD cX3_spreadTakings 72 75 (.iinc 2 1) 3 := by decide +kernel
theorem kX3_spreadTakings_75 : zB cX3_spreadTakings 75 78 2 (.goto (-73)) (-73) := by decide +kernel
theorem kX3_spreadTakings_78 : zD cX3_spreadTakings 78 79 (.return_) 1 := by decide +kernel
set_option maxRecDepth 10000 in
theorem wX3_spreadTakings_0 {G : ZG} {d : Nat} {h : ZH} {Q : Option ZV → ZH → Prop} {x1 : Int32} 
  (H : zT G (d + 5) mX3_spreadTakings 2 [zr 1 0, zi x1, zi 0, zu] [] h Q) :
  zT G (d + 5) mX3_spreadTakings 0 [zr 1 0, zi x1, zu, zu] [] h Q := by
  refine zt_iconst (v := 0) kX3_spreadTakings_0 rfl ?_
  refine zt_istore_n (L' := [zr 1 0, zi x1, zi 0, zu]) kX3_spreadTakings_1 (by decide) rfl ?_
  exact H

set_option maxRecDepth 10000 in
theorem wX3_spreadTakings_2 {G : ZG} {d : Nat} {h : ZH} {Q : Option ZV → ZH → Prop} {x1 : Int32} {x2 : Int32} 
  (H : (12 ≤ x2 → Q none h) ∧ (¬ 12 ≤ x2 → (¬ ((x1 >>> (x2 &&& 31)) &&& 1) = 0 → zC G (d + 4) mX3_leftOf [zr 1 0, zi (x1 &&& (((1 : Int32) <<< (x2 &&& 31)) ^^^ (-1)))] h (fun r2 h1 => ∃ y3 : Int32, r2 = some (zi y3) ∧ vp_in y3 4096 ∧ ((h1.1 18 0 y3.toNatClampNeg) = (-1) → vp_in x1 4096 ∧ vp_in y3 4096 ∧ (∀ h4 : ZH, h4 = zs1 h1 18 0 y3.toNatClampNeg ((h1.1 18 0 x1.toNatClampNeg) + 1) → zT G (d + 5) mX3_spreadTakings 2 [zr 1 0, zi x1, zi (x2 + 1), zu] [] h4 Q)) ∧ (¬ (h1.1 18 0 y3.toNatClampNeg) = (-1) → vp_in y3 4096 ∧ vp_in x1 4096 ∧ ((h1.1 18 0 y3.toNatClampNeg) ≤ ((h1.1 18 0 x1.toNatClampNeg) + 1) → zT G (d + 5) mX3_spreadTakings 2 [zr 1 0, zi x1, zi (x2 + 1), zu] [] h1 Q) ∧ (¬ (h1.1 18 0 y3.toNatClampNeg) ≤ ((h1.1 18 0 x1.toNatClampNeg) + 1) → vp_in x1 4096 ∧ vp_in y3 4096 ∧ (∀ h5 : ZH, h5 = zs1 h1 18 0 y3.toNatClampNeg ((h1.1 18 0 x1.toNatClampNeg) + 1) → zT G (d + 5) mX3_spreadTakings 2 [zr 1 0, zi x1, zi (x2 + 1), zu] [] h5 Q))))) ∧ (((x1 >>> (x2 &&& 31)) &&& 1) = 0 → zT G (d + 5) mX3_spreadTakings 2 [zr 1 0, zi x1, zi (x2 + 1), zu] [] h Q))) :
  zT G (d + 5) mX3_spreadTakings 2 [zr 1 0, zi x1, zi x2, zu] [] h Q := by
  refine zt_iload_n kX3_spreadTakings_2 rfl ?_
  refine zt_bipush (v := 12) kX3_spreadTakings_3 rfl ?_
  refine zt_icmp_ge kX3_spreadTakings_5 (fun c => ?_) (fun c => ?_)
  · replace H := H.1 c
    exact zt_vret kX3_spreadTakings_78 rfl H
  · replace H := H.2 c
    refine zt_iload_n kX3_spreadTakings_8 rfl ?_
    refine zt_iload_n kX3_spreadTakings_9 rfl ?_
    refine zt_ishr kX3_spreadTakings_10 ?_
    refine zt_iconst (v := 1) kX3_spreadTakings_11 rfl ?_
    refine zt_iand kX3_spreadTakings_12 ?_
    refine zt_if_ne kX3_spreadTakings_13 (fun c => ?_) (fun c => ?_)
    · replace H := H.1 c
      refine zt_aload_n kX3_spreadTakings_19 rfl ?_
      refine zt_iload_n kX3_spreadTakings_20 rfl ?_
      refine zt_iconst (v := 1) kX3_spreadTakings_21 rfl ?_
      refine zt_iload_n kX3_spreadTakings_22 rfl ?_
      refine zt_ishl kX3_spreadTakings_23 ?_
      refine zt_iconst (v := (-1)) kX3_spreadTakings_24 rfl ?_
      refine zt_ixor kX3_spreadTakings_25 ?_
      refine zt_iand kX3_spreadTakings_26 ?_
      refine zt_cV (as := [zi (x1 &&& (((1 : Int32) <<< (x2 &&& 31)) ^^^ (-1)))]) kX3_spreadTakings_27 sRX3_52 rfl (by decide) rfl (by simp) rfl H (fun r2 h1 H => ?_)
      obtain ⟨y3, rfl, H⟩ := H
      refine zt_istore_n (L' := [zr 1 0, zi x1, zi x2, zi y3]) kX3_spreadTakings_30 (by decide) rfl ?_
      refine zt_aload_n kX3_spreadTakings_31 rfl ?_
      refine zt_get (v := zr 18 0) kX3_spreadTakings_32 fRX3_22 rfl (by decide) rfl ?_
      refine zt_iload_n kX3_spreadTakings_35 rfl ?_
      obtain ⟨hv, H⟩ := H
      refine zt_iald kX3_spreadTakings_36 rfl (by decide) hv ?_
      refine zt_iconst (v := (-1)) kX3_spreadTakings_37 rfl ?_
      refine zt_icmp_eq kX3_spreadTakings_38 (fun c => ?_) (fun c => ?_)
      · replace H := H.1 c
        refine zt_aload_n kX3_spreadTakings_58 rfl ?_
        refine zt_get (v := zr 18 0) kX3_spreadTakings_59 fRX3_22 rfl (by decide) rfl ?_
        refine zt_iload_n kX3_spreadTakings_62 rfl ?_
        refine zt_aload_n kX3_spreadTakings_63 rfl ?_
        refine zt_get (v := zr 18 0) kX3_spreadTakings_64 fRX3_22 rfl (by decide) rfl ?_
        refine zt_iload_n kX3_spreadTakings_67 rfl ?_
        obtain ⟨hv, H⟩ := H
        refine zt_iald kX3_spreadTakings_68 rfl (by decide) hv ?_
        refine zt_iconst (v := 1) kX3_spreadTakings_69 rfl ?_
        refine zt_iadd kX3_spreadTakings_70 ?_
        obtain ⟨hv, H⟩ := H
        refine zt_iast kX3_spreadTakings_71 rfl (by decide) hv ?_
        refine zt_heap (fun h4 eh4 => ?_)
        replace H := H h4 eh4
        refine zt_iinc (v := (x2 + 1)) (L' := [zr 1 0, zi x1, zi (x2 + 1), zi y3]) kX3_spreadTakings_72 rfl rfl (by decide) rfl ?_
        refine zt_goto kX3_spreadTakings_75 ?_
        exact zt_sub [zr 1 0, zi x1, zi (x2 + 1), zu] ⟨rfl, ⟨rfl, ⟨rfl, trivial⟩⟩⟩ H
      · replace H := H.2 c
        refine zt_aload_n kX3_spreadTakings_41 rfl ?_
        refine zt_get (v := zr 18 0) kX3_spreadTakings_42 fRX3_22 rfl (by decide) rfl ?_
        refine zt_iload_n kX3_spreadTakings_45 rfl ?_
        obtain ⟨hv, H⟩ := H
        refine zt_iald kX3_spreadTakings_46 rfl (by decide) hv ?_
        refine zt_aload_n kX3_spreadTakings_47 rfl ?_
        refine zt_get (v := zr 18 0) kX3_spreadTakings_48 fRX3_22 rfl (by decide) rfl ?_
        refine zt_iload_n kX3_spreadTakings_51 rfl ?_
        obtain ⟨hv, H⟩ := H
        refine zt_iald kX3_spreadTakings_52 rfl (by decide) hv ?_
        refine zt_iconst (v := 1) kX3_spreadTakings_53 rfl ?_
        refine zt_iadd kX3_spreadTakings_54 ?_
        refine zt_icmp_le kX3_spreadTakings_55 (fun c => ?_) (fun c => ?_)
        · replace H := H.1 c
          refine zt_iinc (v := (x2 + 1)) (L' := [zr 1 0, zi x1, zi (x2 + 1), zi y3]) kX3_spreadTakings_72 rfl rfl (by decide) rfl ?_
          refine zt_goto kX3_spreadTakings_75 ?_
          exact zt_sub [zr 1 0, zi x1, zi (x2 + 1), zu] ⟨rfl, ⟨rfl, ⟨rfl, trivial⟩⟩⟩ H
        · replace H := H.2 c
          refine zt_aload_n kX3_spreadTakings_58 rfl ?_
          refine zt_get (v := zr 18 0) kX3_spreadTakings_59 fRX3_22 rfl (by decide) rfl ?_
          refine zt_iload_n kX3_spreadTakings_62 rfl ?_
          refine zt_aload_n kX3_spreadTakings_63 rfl ?_
          refine zt_get (v := zr 18 0) kX3_spreadTakings_64 fRX3_22 rfl (by decide) rfl ?_
          refine zt_iload_n kX3_spreadTakings_67 rfl ?_
          obtain ⟨hv, H⟩ := H
          refine zt_iald kX3_spreadTakings_68 rfl (by decide) hv ?_
          refine zt_iconst (v := 1) kX3_spreadTakings_69 rfl ?_
          refine zt_iadd kX3_spreadTakings_70 ?_
          obtain ⟨hv, H⟩ := H
          refine zt_iast kX3_spreadTakings_71 rfl (by decide) hv ?_
          refine zt_heap (fun h5 eh5 => ?_)
          replace H := H h5 eh5
          refine zt_iinc (v := (x2 + 1)) (L' := [zr 1 0, zi x1, zi (x2 + 1), zi y3]) kX3_spreadTakings_72 rfl rfl (by decide) rfl ?_
          refine zt_goto kX3_spreadTakings_75 ?_
          exact zt_sub [zr 1 0, zi x1, zi (x2 + 1), zu] ⟨rfl, ⟨rfl, ⟨rfl, trivial⟩⟩⟩ H
    · replace H := H.2 c
      refine zt_goto kX3_spreadTakings_16 ?_
      refine zt_iinc (v := (x2 + 1)) (L' := [zr 1 0, zi x1, zi (x2 + 1), zu]) kX3_spreadTakings_72 rfl rfl (by decide) rfl ?_
      refine zt_goto kX3_spreadTakings_75 ?_
      exact H

theorem kX12_felled_0 : zD cX12_felled 0 1 (.iload_n 1) 1 := by decide +kernel
theorem kX12_felled_1 : zD cX12_felled 1 2 (.iconst 1) 1 := by decide +kernel
theorem kX12_felled_2 : zD cX12_felled 2 4 (.bipush 12) 2 := by decide +kernel
theorem kX12_felled_4 : zD cX12_felled 4 7 (.invokestatic 53) 3 := by decide +kernel
theorem kX12_felled_7 : zB cX12_felled 7 10 12 (.ifCond .ne 5) 5 := by decide +kernel
theorem kX12_felled_10 : zD cX12_felled 10 11 (.iconst (-1)) 1 := by decide +kernel
theorem kX12_felled_11 : zD cX12_felled 11 12 (.ireturn) 1 := by decide +kernel
theorem kX12_felled_12 : zD cX12_felled 12 13 (.aload_n 0) 1 := by decide +kernel
theorem kX12_felled_13 : zD cX12_felled 13 16 (.getfield 9) 3 := by decide +kernel
theorem kX12_felled_16 : zD cX12_felled 16 17 (.iconst 0) 1 := by decide +kernel
theorem kX12_felled_17 : zD cX12_felled 17 18 (.iaload) 1 := by decide +kernel
theorem kX12_felled_18 : zD cX12_felled 18 21 (.invokestatic 107) 3 := by decide +kernel
theorem kX12_felled_21 : zD cX12_felled 21 22 (.istore_n 2) 1 := by decide +kernel
theorem kX12_felled_22 : zD cX12_felled 22 23 (.iconst 0) 1 := by decide +kernel
theorem kX12_felled_23 : zD cX12_felled 23 24 (.istore_n 3) 1 := by decide +kernel
theorem kX12_felled_24 : zD cX12_felled 24 25 (.iload_n 3) 1 := by decide +kernel
theorem kX12_felled_25 : zD cX12_felled 25 28 (.sipush 4096) 3 := by decide +kernel
theorem kX12_felled_28 : zB cX12_felled 28 31 58 (.if_icmp .ge 30) 30 := by decide +kernel
theorem kX12_felled_31 : zD cX12_felled 31 32 (.aload_n 0) 1 := by decide +kernel
theorem kX12_felled_32 : zD cX12_felled 32 35 (.getfield 28) 3 := by decide +kernel
theorem kX12_felled_35 : zD cX12_felled 35 36 (.iload_n 3) 1 := by decide +kernel
theorem kX12_felled_36 : zD cX12_felled 36 37 (.iload_n 3) 1 := by decide +kernel
theorem kX12_felled_37 : zD cX12_felled 37 38 (.aload_n 0) 1 := by decide +kernel
theorem kX12_felled_38 : zD cX12_felled 38 41 (.getfield 9) 3 := by decide +kernel
theorem kX12_felled_41 : zD cX12_felled 41 42 (.iconst 0) 1 := by decide +kernel
theorem kX12_felled_42 : zD cX12_felled 42 43 (.iaload) 1 := by decide +kernel
theorem kX12_felled_43 : zB cX12_felled 43 46 50 (.if_icmp .ne 7) 7 := by decide +kernel
theorem kX12_felled_46 : zD cX12_felled 46 47 (.iconst 1) 1 := by decide +kernel
theorem kX12_felled_47 : zB cX12_felled 47 50 51 (.goto 4) 4 := by decide +kernel
theorem kX12_felled_50 : zD cX12_felled 50 51 (.iconst 0) 1 := by decide +kernel
theorem kX12_felled_51 : zD cX12_felled 51 52 (.bastore) 1 := by decide +kernel
theorem kX12_felled_52 : zD cX12_felled 52 55 (.iinc 3 1) 3 := by decide +kernel
theorem kX12_felled_55 : zB cX12_felled 55 58 24 (.goto (-31)) (-31) := by decide +kernel
theorem kX12_felled_58 : zD cX12_felled 58 59 (.iconst 1) 1 := by decide +kernel
theorem kX12_felled_59 : zD cX12_felled 59 60 (.istore_n 3) 1 := by decide +kernel
theorem kX12_felled_60 : zD cX12_felled 60 61 (.iload_n 3) 1 := by decide +kernel
theorem kX12_felled_61 : zD cX12_felled 61 62 (.iload_n 2) 1 := by decide +kernel
theorem kX12_felled_62 : zB cX12_felled 62 65 218 (.if_icmp .gt 156) 156 := by decide +kernel
theorem kX12_felled_65 : zD cX12_felled 65 66 (.iconst 0) 1 := by decide +kernel
theorem kX12_felled_66 : zD cX12_felled 66 68 (.istore 4) 2 := by decide +kernel
theorem kX12_felled_68 : zD cX12_felled 68 70 (.iload 4) 2 := by decide +kernel
theorem kX12_felled_70 : zD cX12_felled 70 73 (.sipush 4096) 3 := by decide +kernel
theorem kX12_felled_73 : zB cX12_felled 73 76 90 (.if_icmp .ge 17) 17 := by decide +kernel
theorem kX12_felled_76 : zD cX12_felled 76 77 (.aload_n 0) 1 := by decide +kernel
theorem kX12_felled_77 : zD cX12_felled 77 80 (.getfield 32) 3 := by decide +kernel
theorem kX12_felled_80 : zD cX12_felled 80 82 (.iload 4) 2 := by decide +kernel
theorem kX12_felled_82 : zD cX12_felled 82 83 (.iconst 0) 1 := by decide +kernel
theorem kX12_felled_83 : zD cX12_felled 83 84 (.bastore) 1 := by decide +kernel
theorem kX12_felled_84 : zD cX12_felled 84 87 (.iinc 4 1) 3 := by decide +kernel
theorem kX12_felled_87 : zB cX12_felled 87 90 68 (.goto (-19)) (-19) := by decide +kernel
theorem kX12_felled_90 : zD cX12_felled 90 91 (.iconst 0) 1 := by decide +kernel
theorem kX12_felled_91 : zD cX12_felled 91 93 (.istore 4) 2 := by decide +kernel
theorem kX12_felled_93 : zD cX12_felled 93 95 (.iload 4) 2 := by decide +kernel
theorem kX12_felled_95 : zD cX12_felled 95 98 (.sipush 4096) 3 := by decide +kernel
theorem kX12_felled_98 : zB cX12_felled 98 101 181 (.if_icmp .ge 83) 83 := by decide +kernel
theorem kX12_felled_101 : zD cX12_felled 101 102 (.iconst 0) 1 := by decide +kernel
theorem kX12_felled_102 : zD cX12_felled 102 104 (.istore 5) 2 := by decide +kernel
theorem kX12_felled_104 : zD cX12_felled 104 106 (.iload 5) 2 := by decide +kernel
theorem kX12_felled_106 : zD cX12_felled 106 108 (.bipush 12) 2 := by decide +kernel
theorem kX12_felled_108 : zB cX12_felled 108 111 175 (.if_icmp .ge 67) 67 := by decide +kernel
theorem kX12_felled_111 : zD cX12_felled 111 112 (.aload_n 0) 1 := by decide +kernel
theorem kX12_felled_112 : zD cX12_felled 112 115 (.getfield 28) 3 := by decide +kernel
theorem kX12_felled_115 : zD cX12_felled 115 117 (.iload 4) 2 := by decide +kernel
theorem kX12_felled_117 : zD cX12_felled 117 118 (.baload) 1 := by decide +kernel
theorem kX12_felled_118 : zB cX12_felled 118 121 175 (.ifCond .eq 57) 57 := by decide +kernel
theorem kX12_felled_121 : zD cX12_felled 121 123 (.iload 4) 2 := by decide +kernel
theorem kX12_felled_123 : zD cX12_felled 123 125 (.iload 5) 2 := by decide +kernel
theorem kX12_felled_125 : zD cX12_felled 125 128 (.invokestatic 57) 3 := by decide +kernel
theorem kX12_felled_128 : zB cX12_felled 128 131 134 (.ifCond .ne 6) 6 := by decide +kernel
theorem kX12_felled_131 : zB cX12_felled 131 134 169 (.goto 38) 38 := by decide +kernel
theorem kX12_felled_134 : zD cX12_felled 134 135 (.aload_n 0) 1 := by decide +kernel
theorem kX12_felled_135 : zD cX12_felled 135 137 (.iload 4) 2 := by decide +kernel
theorem kX12_felled_137 : zD cX12_felled 137 138 (.iconst 1) 1 := by decide +kernel
theorem kX12_felled_138 : zD cX12_felled 138 140 (.iload 5) 2 := by decide +kernel
theorem kX12_felled_140 : zD cX12_felled 140 141 (.ishl) 1 := by decide +kernel
theorem kX12_felled_141 : zD cX12_felled 141 144 (.invokevirtual 110) 3 := by decide +kernel
theorem kX12_felled_144 : zD cX12_felled 144 146 (.istore 6) 2 := by decide +kernel
theorem kX12_felled_146 : zD cX12_felled 146 147 (.iload_n 2) 1 := by decide +kernel
theorem kX12_felled_147 : zD cX12_felled 147 148 (.iload_n 3) 1 := by decide +kernel
theorem kX12_felled_148 : zD cX12_felled 148 149 (.isub) 1 := by decide +kernel
theorem kX12_felled_149 : zD cX12_felled 149 151 (.iload 6) 2 := by decide +kernel
theorem kX12_felled_151 : zD cX12_felled 151 154 (.invokestatic 107) 3 := by decide +kernel
theorem kX12_felled_154 : zD cX12_felled 154 155 (.isub) 1 := by decide +kernel
theorem kX12_felled_155 : zD cX12_felled 155 156 (.iload_n 1) 1 := by decide +kernel
theorem kX12_felled_156 : zB cX12_felled 156 159 161 (.if_icmp .lt 5) 5 := by decide +kernel
theorem kX12_felled_159 : zD cX12_felled 159 160 (.iload_n 3) 1 := by decide +kernel
theorem kX12_felled_160 : zD cX12_felled 160 161 (.ireturn) 1 := by decide +kernel
theorem kX12_felled_161 : zD cX12_felled 161 162 (.aload_n 0) 1 := by decide +kernel
theorem kX12_felled_162 : zD cX12_felled 162 165 (.getfield 32) 3 := by decide +kernel
theorem kX12_felled_165 : zD cX12_felled 165 167 (.iload 6) 2 := by decide +kernel
theorem kX12_felled_167 : zD cX12_felled 167 168 (.iconst 1) 1 := by decide +kernel
theorem kX12_felled_168 : zD cX12_felled 168 169 (.bastore) 1 := by decide +kernel
theorem kX12_felled_169 : zD cX12_felled 169 172 (.iinc 5 1) 3 := by decide +kernel
theorem kX12_felled_172 : zB cX12_felled 172 175 104 (.goto (-68)) (-68) := by decide +kernel
theorem kX12_felled_175 : zD cX12_felled 175 178 (.iinc 4 1) 3 := by decide +kernel
theorem kX12_felled_178 : zB cX12_felled 178 181 93 (.goto (-85)) (-85) := by decide +kernel
theorem kX12_felled_181 : zD cX12_felled 181 182 (.iconst 0) 1 := by decide +kernel
theorem kX12_felled_182 : zD cX12_felled 182 184 (.istore 4) 2 := by decide +kernel
theorem kX12_felled_184 : zD cX12_felled 184 186 (.iload 4) 2 := by decide +kernel
theorem kX12_felled_186 : zD cX12_felled 186 189 (.sipush 4096) 3 := by decide +kernel
theorem kX12_felled_189 : zB cX12_felled 189 192 212 (.if_icmp .ge 23) 23 := by decide +kernel
theorem kX12_felled_192 : zD cX12_felled 192 193 (.aload_n 0) 1 := by decide +kernel
theorem kX12_felled_193 : zD cX12_felled 193 196 (.getfield 28) 3 := by decide +kernel
theorem kX12_felled_196 : zD cX12_felled 196 198 (.iload 4) 2 := by decide +kernel
theorem kX12_felled_198 : zD cX12_felled 198 199 (.aload_n 0) 1 := by decide +kernel
theorem kX12_felled_199 : zD cX12_felled 199 202 (.getfield 32) 3 := by decide +kernel
theorem kX12_felled_202 : zD cX12_felled 202 204 (.iload 4) 2 := by decide +kernel
theorem kX12_felled_204 : zD cX12_felled 204 205 (.baload) 1 := by decide +kernel
theorem kX12_felled_205 : zD cX12_felled 205 206 (.bastore) 1 := by decide +kernel
theorem kX12_felled_206 : zD cX12_felled 206 209 (.iinc 4 1) 3 := by decide +kernel
theorem kX12_felled_209 : zB cX12_felled 209 212 184 (.goto (-25)) (-25) := by decide +kernel
theorem kX12_felled_212 : zD cX12_felled 212 215 (.iinc 3 1) 3 := by decide +kernel
theorem kX12_felled_215 : zB cX12_felled 215 218 60 (.goto (-155)) (-155) := by decide +kernel
theorem kX12_felled_218 : zD cX12_felled 218 220 (.bipush (-4)) 2 := by decide +kernel
theorem kX12_felled_220 : zD cX12_felled 220 221 (.ireturn) 1 := by decide +kernel
set_option maxRecDepth 10000 in
theorem wX12_felled_0 {G : ZG} {d : Nat} {h : ZH} {Q : Option ZV → ZH → Prop} {x1 : Int32} 
  (H : (((1 : Int32) ≤ x1 ∧ x1 ≤ (12 : Int32)) → zT G (d + 7) mX12_felled 24 [zr 5 0, zi x1, zi (bitsI (h.1 30 0 0)), zi 0, zu, zu, zu] [] h Q) ∧ (¬ ((1 : Int32) ≤ x1 ∧ x1 ≤ (12 : Int32)) → Q (some (zi (-1))) h)) :
  zT G (d + 7) mX12_felled 0 [zr 5 0, zi x1, zu, zu, zu, zu, zu] [] h Q := by
  refine zt_iload_n kX12_felled_0 rfl ?_
  refine zt_iconst (v := 1) kX12_felled_1 rfl ?_
  refine zt_bipush (v := 12) kX12_felled_2 rfl ?_
  refine zt_cS (as := [zi x1, zi 1, zi 12]) kX12_felled_4 sRX12_53 rfl (by simp) rfl (sX12_isIn _  ) (fun r h0 hq => ?_)
  obtain ⟨rfl, hh⟩ := hq
  replace hh := hh.symm
  subst hh
  refine zt_ifb_ne kX12_felled_7 (fun c => ?_) (fun c => ?_)
  · replace H := H.1 c
    refine zt_aload_n kX12_felled_12 rfl ?_
    refine zt_get (v := zr 30 0) kX12_felled_13 fRX12_9 rfl (by decide) rfl ?_
    refine zt_iconst (v := 0) kX12_felled_16 rfl ?_
    refine zt_ialdc 0 rfl kX12_felled_17 rfl (by decide) (zvp_dec (by decide)) ?_
    refine zt_cS (as := [zi (h.1 30 0 0)]) kX12_felled_18 sRX12_107 rfl (by simp) rfl (sX12_bits _  ) (fun r h0 hq => ?_)
    obtain ⟨rfl, hh⟩ := hq
    replace hh := hh.symm
    subst hh
    refine zt_istore_n (L' := [zr 5 0, zi x1, zi (bitsI (h.1 30 0 0)), zu, zu, zu, zu]) kX12_felled_21 (by decide) rfl ?_
    refine zt_iconst (v := 0) kX12_felled_22 rfl ?_
    refine zt_istore_n (L' := [zr 5 0, zi x1, zi (bitsI (h.1 30 0 0)), zi 0, zu, zu, zu]) kX12_felled_23 (by decide) rfl ?_
    exact H
  · replace H := H.2 c
    refine zt_iconst (v := (-1)) kX12_felled_10 rfl ?_
    exact zt_iret kX12_felled_11 rfl H

set_option maxRecDepth 10000 in
theorem wX12_felled_24 {G : ZG} {d : Nat} {h : ZH} {Q : Option ZV → ZH → Prop} {x1 : Int32} {x2 : Int32} {x3 : Int32} 
  (H : (4096 ≤ x3 → zT G (d + 7) mX12_felled 60 [zr 5 0, zi x1, zi x2, zi 1, zu, zu, zu] [] h Q) ∧ (¬ 4096 ≤ x3 → (¬ x3 = (h.1 30 0 0) → vp_in x3 4096 ∧ (∀ h1 : ZH, h1 = zs1 h 36 0 x3.toNatClampNeg (vp_nar .boolean 0) → zT G (d + 7) mX12_felled 24 [zr 5 0, zi x1, zi x2, zi (x3 + 1), zu, zu, zu] [] h1 Q)) ∧ (x3 = (h.1 30 0 0) → vp_in x3 4096 ∧ (∀ h2 : ZH, h2 = zs1 h 36 0 x3.toNatClampNeg (vp_nar .boolean 1) → zT G (d + 7) mX12_felled 24 [zr 5 0, zi x1, zi x2, zi (x3 + 1), zu, zu, zu] [] h2 Q)))) :
  zT G (d + 7) mX12_felled 24 [zr 5 0, zi x1, zi x2, zi x3, zu, zu, zu] [] h Q := by
  refine zt_iload_n kX12_felled_24 rfl ?_
  refine zt_sipush (v := 4096) kX12_felled_25 rfl ?_
  refine zt_icmp_ge kX12_felled_28 (fun c => ?_) (fun c => ?_)
  · replace H := H.1 c
    refine zt_iconst (v := 1) kX12_felled_58 rfl ?_
    refine zt_istore_n (L' := [zr 5 0, zi x1, zi x2, zi 1, zu, zu, zu]) kX12_felled_59 (by decide) rfl ?_
    exact H
  · replace H := H.2 c
    refine zt_aload_n kX12_felled_31 rfl ?_
    refine zt_get (v := zr 36 0) kX12_felled_32 fRX12_28 rfl (by decide) rfl ?_
    refine zt_iload_n kX12_felled_35 rfl ?_
    refine zt_iload_n kX12_felled_36 rfl ?_
    refine zt_aload_n kX12_felled_37 rfl ?_
    refine zt_get (v := zr 30 0) kX12_felled_38 fRX12_9 rfl (by decide) rfl ?_
    refine zt_iconst (v := 0) kX12_felled_41 rfl ?_
    refine zt_ialdc 0 rfl kX12_felled_42 rfl (by decide) (zvp_dec (by decide)) ?_
    refine zt_icmp_ne kX12_felled_43 (fun c => ?_) (fun c => ?_)
    · replace H := H.1 c
      refine zt_iconst (v := 0) kX12_felled_50 rfl ?_
      obtain ⟨hv, H⟩ := H
      refine zt_zast kX12_felled_51 rfl (by decide) hv ?_
      refine zt_heap (fun h1 eh1 => ?_)
      replace H := H h1 eh1
      refine zt_iinc (v := (x3 + 1)) (L' := [zr 5 0, zi x1, zi x2, zi (x3 + 1), zu, zu, zu]) kX12_felled_52 rfl rfl (by decide) rfl ?_
      refine zt_goto kX12_felled_55 ?_
      exact H
    · replace H := H.2 c
      refine zt_iconst (v := 1) kX12_felled_46 rfl ?_
      refine zt_goto kX12_felled_47 ?_
      obtain ⟨hv, H⟩ := H
      refine zt_zast kX12_felled_51 rfl (by decide) hv ?_
      refine zt_heap (fun h2 eh2 => ?_)
      replace H := H h2 eh2
      refine zt_iinc (v := (x3 + 1)) (L' := [zr 5 0, zi x1, zi x2, zi (x3 + 1), zu, zu, zu]) kX12_felled_52 rfl rfl (by decide) rfl ?_
      refine zt_goto kX12_felled_55 ?_
      exact H

set_option maxRecDepth 10000 in
theorem wX12_felled_60 {G : ZG} {d : Nat} {h : ZH} {Q : Option ZV → ZH → Prop} {x1 : Int32} {x2 : Int32} {x3 : Int32} 
  (H : (x2 < x3 → Q (some (zi (-4))) h) ∧ (¬ x2 < x3 → zT G (d + 7) mX12_felled 68 [zr 5 0, zi x1, zi x2, zi x3, zi 0, zu, zu] [] h Q)) :
  zT G (d + 7) mX12_felled 60 [zr 5 0, zi x1, zi x2, zi x3, zu, zu, zu] [] h Q := by
  refine zt_iload_n kX12_felled_60 rfl ?_
  refine zt_iload_n kX12_felled_61 rfl ?_
  refine zt_icmp_gt kX12_felled_62 (fun c => ?_) (fun c => ?_)
  · replace H := H.1 c
    refine zt_bipush (v := (-4)) kX12_felled_218 rfl ?_
    exact zt_iret kX12_felled_220 rfl H
  · replace H := H.2 c
    refine zt_iconst (v := 0) kX12_felled_65 rfl ?_
    refine zt_istore (L' := [zr 5 0, zi x1, zi x2, zi x3, zi 0, zu, zu]) kX12_felled_66 (by decide) rfl ?_
    exact H

set_option maxRecDepth 10000 in
theorem wX12_felled_68 {G : ZG} {d : Nat} {h : ZH} {Q : Option ZV → ZH → Prop} {x1 : Int32} {x2 : Int32} {x3 : Int32} {x4 : Int32} 
  (H : (4096 ≤ x4 → zT G (d + 7) mX12_felled 93 [zr 5 0, zi x1, zi x2, zi x3, zi 0, zu, zu] [] h Q) ∧ (¬ 4096 ≤ x4 → vp_in x4 4096 ∧ (∀ h1 : ZH, h1 = zs1 h 37 0 x4.toNatClampNeg (vp_nar .boolean 0) → zT G (d + 7) mX12_felled 68 [zr 5 0, zi x1, zi x2, zi x3, zi (x4 + 1), zu, zu] [] h1 Q))) :
  zT G (d + 7) mX12_felled 68 [zr 5 0, zi x1, zi x2, zi x3, zi x4, zu, zu] [] h Q := by
  refine zt_iload kX12_felled_68 rfl ?_
  refine zt_sipush (v := 4096) kX12_felled_70 rfl ?_
  refine zt_icmp_ge kX12_felled_73 (fun c => ?_) (fun c => ?_)
  · replace H := H.1 c
    refine zt_iconst (v := 0) kX12_felled_90 rfl ?_
    refine zt_istore (L' := [zr 5 0, zi x1, zi x2, zi x3, zi 0, zu, zu]) kX12_felled_91 (by decide) rfl ?_
    exact H
  · replace H := H.2 c
    refine zt_aload_n kX12_felled_76 rfl ?_
    refine zt_get (v := zr 37 0) kX12_felled_77 fRX12_32 rfl (by decide) rfl ?_
    refine zt_iload kX12_felled_80 rfl ?_
    refine zt_iconst (v := 0) kX12_felled_82 rfl ?_
    obtain ⟨hv, H⟩ := H
    refine zt_zast kX12_felled_83 rfl (by decide) hv ?_
    refine zt_heap (fun h1 eh1 => ?_)
    replace H := H h1 eh1
    refine zt_iinc (v := (x4 + 1)) (L' := [zr 5 0, zi x1, zi x2, zi x3, zi (x4 + 1), zu, zu]) kX12_felled_84 rfl rfl (by decide) rfl ?_
    refine zt_goto kX12_felled_87 ?_
    exact H

set_option maxRecDepth 10000 in
theorem wX12_felled_93 {G : ZG} {d : Nat} {h : ZH} {Q : Option ZV → ZH → Prop} {x1 : Int32} {x2 : Int32} {x3 : Int32} {x4 : Int32} 
  (H : (4096 ≤ x4 → zT G (d + 7) mX12_felled 184 [zr 5 0, zi x1, zi x2, zi x3, zi 0, zu, zu] [] h Q) ∧ (¬ 4096 ≤ x4 → zT G (d + 7) mX12_felled 104 [zr 5 0, zi x1, zi x2, zi x3, zi x4, zi 0, zu] [] h Q)) :
  zT G (d + 7) mX12_felled 93 [zr 5 0, zi x1, zi x2, zi x3, zi x4, zu, zu] [] h Q := by
  refine zt_iload kX12_felled_93 rfl ?_
  refine zt_sipush (v := 4096) kX12_felled_95 rfl ?_
  refine zt_icmp_ge kX12_felled_98 (fun c => ?_) (fun c => ?_)
  · replace H := H.1 c
    refine zt_iconst (v := 0) kX12_felled_181 rfl ?_
    refine zt_istore (L' := [zr 5 0, zi x1, zi x2, zi x3, zi 0, zu, zu]) kX12_felled_182 (by decide) rfl ?_
    exact H
  · replace H := H.2 c
    refine zt_iconst (v := 0) kX12_felled_101 rfl ?_
    refine zt_istore (L' := [zr 5 0, zi x1, zi x2, zi x3, zi x4, zi 0, zu]) kX12_felled_102 (by decide) rfl ?_
    exact H

set_option maxRecDepth 10000 in
theorem wX12_felled_104 {G : ZG} {d : Nat} {h : ZH} {Q : Option ZV → ZH → Prop} {x1 : Int32} {x2 : Int32} {x3 : Int32} {x4 : Int32} {x5 : Int32} 
  (H : (12 ≤ x5 → zT G (d + 7) mX12_felled 93 [zr 5 0, zi x1, zi x2, zi x3, zi (x4 + 1), zu, zu] [] h Q) ∧ (¬ 12 ≤ x5 → vp_in x4 4096 ∧ ((h.1 36 0 x4.toNatClampNeg) = 0 → zT G (d + 7) mX12_felled 93 [zr 5 0, zi x1, zi x2, zi x3, zi (x4 + 1), zu, zu] [] h Q) ∧ (¬ (h.1 36 0 x4.toNatClampNeg) = 0 → ((hasI x4 x5) → zC G (d + 6) mX12_leftWithout [zr 5 0, zi x4, zi ((1 : Int32) <<< (x5 &&& 31))] h (fun r2 h1 => ∃ y3 : Int32, r2 = some (zi y3) ∧ (((x2 - x3) - (bitsI y3)) < x1 → vp_in y3 4096 ∧ (∀ h4 : ZH, h4 = zs1 h1 37 0 y3.toNatClampNeg (vp_nar .boolean 1) → zT G (d + 7) mX12_felled 104 [zr 5 0, zi x1, zi x2, zi x3, zi x4, zi (x5 + 1), zu] [] h4 Q)) ∧ (¬ ((x2 - x3) - (bitsI y3)) < x1 → Q (some (zi x3)) h1))) ∧ (¬ (hasI x4 x5) → zT G (d + 7) mX12_felled 104 [zr 5 0, zi x1, zi x2, zi x3, zi x4, zi (x5 + 1), zu] [] h Q)))) :
  zT G (d + 7) mX12_felled 104 [zr 5 0, zi x1, zi x2, zi x3, zi x4, zi x5, zu] [] h Q := by
  refine zt_iload kX12_felled_104 rfl ?_
  refine zt_bipush (v := 12) kX12_felled_106 rfl ?_
  refine zt_icmp_ge kX12_felled_108 (fun c => ?_) (fun c => ?_)
  · replace H := H.1 c
    refine zt_iinc (v := (x4 + 1)) (L' := [zr 5 0, zi x1, zi x2, zi x3, zi (x4 + 1), zi x5, zu]) kX12_felled_175 rfl rfl (by decide) rfl ?_
    refine zt_goto kX12_felled_178 ?_
    exact zt_sub [zr 5 0, zi x1, zi x2, zi x3, zi (x4 + 1), zu, zu] ⟨rfl, ⟨rfl, ⟨rfl, ⟨rfl, ⟨rfl, trivial⟩⟩⟩⟩⟩ H
  · replace H := H.2 c
    refine zt_aload_n kX12_felled_111 rfl ?_
    refine zt_get (v := zr 36 0) kX12_felled_112 fRX12_28 rfl (by decide) rfl ?_
    refine zt_iload kX12_felled_115 rfl ?_
    obtain ⟨hv, H⟩ := H
    refine zt_zald kX12_felled_117 rfl (by decide) hv ?_
    refine zt_if_eq kX12_felled_118 (fun c => ?_) (fun c => ?_)
    · replace H := H.1 c
      refine zt_iinc (v := (x4 + 1)) (L' := [zr 5 0, zi x1, zi x2, zi x3, zi (x4 + 1), zi x5, zu]) kX12_felled_175 rfl rfl (by decide) rfl ?_
      refine zt_goto kX12_felled_178 ?_
      exact zt_sub [zr 5 0, zi x1, zi x2, zi x3, zi (x4 + 1), zu, zu] ⟨rfl, ⟨rfl, ⟨rfl, ⟨rfl, ⟨rfl, trivial⟩⟩⟩⟩⟩ H
    · replace H := H.2 c
      refine zt_iload kX12_felled_121 rfl ?_
      refine zt_iload kX12_felled_123 rfl ?_
      refine zt_cS (as := [zi x4, zi x5]) kX12_felled_125 sRX12_57 rfl (by simp) rfl (sX12_has _  ) (fun r h0 hq => ?_)
      obtain ⟨rfl, hh⟩ := hq
      replace hh := hh.symm
      subst hh
      refine zt_ifb_ne kX12_felled_128 (fun c => ?_) (fun c => ?_)
      · replace H := H.1 c
        refine zt_aload_n kX12_felled_134 rfl ?_
        refine zt_iload kX12_felled_135 rfl ?_
        refine zt_iconst (v := 1) kX12_felled_137 rfl ?_
        refine zt_iload kX12_felled_138 rfl ?_
        refine zt_ishl kX12_felled_140 ?_
        refine zt_cV (as := [zi x4, zi ((1 : Int32) <<< (x5 &&& 31))]) kX12_felled_141 sRX12_110 rfl (by decide) rfl (by simp) rfl H (fun r2 h1 H => ?_)
        obtain ⟨y3, rfl, H⟩ := H
        refine zt_istore (L' := [zr 5 0, zi x1, zi x2, zi x3, zi x4, zi x5, zi y3]) kX12_felled_144 (by decide) rfl ?_
        refine zt_iload_n kX12_felled_146 rfl ?_
        refine zt_iload_n kX12_felled_147 rfl ?_
        refine zt_isub kX12_felled_148 ?_
        refine zt_iload kX12_felled_149 rfl ?_
        refine zt_cS (as := [zi y3]) kX12_felled_151 sRX12_107 rfl (by simp) rfl (sX12_bits _  ) (fun r h0 hq => ?_)
        obtain ⟨rfl, hh⟩ := hq
        replace hh := hh.symm
        subst hh
        refine zt_isub kX12_felled_154 ?_
        refine zt_iload_n kX12_felled_155 rfl ?_
        refine zt_icmp_lt kX12_felled_156 (fun c => ?_) (fun c => ?_)
        · replace H := H.1 c
          refine zt_aload_n kX12_felled_161 rfl ?_
          refine zt_get (v := zr 37 0) kX12_felled_162 fRX12_32 rfl (by decide) rfl ?_
          refine zt_iload kX12_felled_165 rfl ?_
          refine zt_iconst (v := 1) kX12_felled_167 rfl ?_
          obtain ⟨hv, H⟩ := H
          refine zt_zast kX12_felled_168 rfl (by decide) hv ?_
          refine zt_heap (fun h4 eh4 => ?_)
          replace H := H h4 eh4
          refine zt_iinc (v := (x5 + 1)) (L' := [zr 5 0, zi x1, zi x2, zi x3, zi x4, zi (x5 + 1), zi y3]) kX12_felled_169 rfl rfl (by decide) rfl ?_
          refine zt_goto kX12_felled_172 ?_
          exact zt_sub [zr 5 0, zi x1, zi x2, zi x3, zi x4, zi (x5 + 1), zu] ⟨rfl, ⟨rfl, ⟨rfl, ⟨rfl, ⟨rfl, ⟨rfl, trivial⟩⟩⟩⟩⟩⟩ H
        · replace H := H.2 c
          refine zt_iload_n kX12_felled_159 rfl ?_
          exact zt_iret kX12_felled_160 rfl H
      · replace H := H.2 c
        refine zt_goto kX12_felled_131 ?_
        refine zt_iinc (v := (x5 + 1)) (L' := [zr 5 0, zi x1, zi x2, zi x3, zi x4, zi (x5 + 1), zu]) kX12_felled_169 rfl rfl (by decide) rfl ?_
        refine zt_goto kX12_felled_172 ?_
        exact H

set_option maxRecDepth 10000 in
theorem wX12_felled_184 {G : ZG} {d : Nat} {h : ZH} {Q : Option ZV → ZH → Prop} {x1 : Int32} {x2 : Int32} {x3 : Int32} {x4 : Int32} 
  (H : (4096 ≤ x4 → zT G (d + 7) mX12_felled 60 [zr 5 0, zi x1, zi x2, zi (x3 + 1), zu, zu, zu] [] h Q) ∧ (¬ 4096 ≤ x4 → vp_in x4 4096 ∧ vp_in x4 4096 ∧ (∀ h1 : ZH, h1 = zs1 h 36 0 x4.toNatClampNeg (vp_nar .boolean (h.1 37 0 x4.toNatClampNeg)) → zT G (d + 7) mX12_felled 184 [zr 5 0, zi x1, zi x2, zi x3, zi (x4 + 1), zu, zu] [] h1 Q))) :
  zT G (d + 7) mX12_felled 184 [zr 5 0, zi x1, zi x2, zi x3, zi x4, zu, zu] [] h Q := by
  refine zt_iload kX12_felled_184 rfl ?_
  refine zt_sipush (v := 4096) kX12_felled_186 rfl ?_
  refine zt_icmp_ge kX12_felled_189 (fun c => ?_) (fun c => ?_)
  · replace H := H.1 c
    refine zt_iinc (v := (x3 + 1)) (L' := [zr 5 0, zi x1, zi x2, zi (x3 + 1), zi x4, zu, zu]) kX12_felled_212 rfl rfl (by decide) rfl ?_
    refine zt_goto kX12_felled_215 ?_
    exact zt_sub [zr 5 0, zi x1, zi x2, zi (x3 + 1), zu, zu, zu] ⟨rfl, ⟨rfl, ⟨rfl, ⟨rfl, trivial⟩⟩⟩⟩ H
  · replace H := H.2 c
    refine zt_aload_n kX12_felled_192 rfl ?_
    refine zt_get (v := zr 36 0) kX12_felled_193 fRX12_28 rfl (by decide) rfl ?_
    refine zt_iload kX12_felled_196 rfl ?_
    refine zt_aload_n kX12_felled_198 rfl ?_
    refine zt_get (v := zr 37 0) kX12_felled_199 fRX12_32 rfl (by decide) rfl ?_
    refine zt_iload kX12_felled_202 rfl ?_
    obtain ⟨hv, H⟩ := H
    refine zt_zald kX12_felled_204 rfl (by decide) hv ?_
    obtain ⟨hv, H⟩ := H
    refine zt_zast kX12_felled_205 rfl (by decide) hv ?_
    refine zt_heap (fun h1 eh1 => ?_)
    replace H := H h1 eh1
    refine zt_iinc (v := (x4 + 1)) (L' := [zr 5 0, zi x1, zi x2, zi x3, zi (x4 + 1), zu, zu]) kX12_felled_206 rfl rfl (by decide) rfl ?_
    refine zt_goto kX12_felled_209 ?_
    exact H

