/-! ===== the bytecode of these methods, walked (by program): X11_tins X11_tinsRefused X3_waysTold X3_firstOfWays X3_waysFrom X3_isTold X11_forged X3_firstForged X3_believedFrom X11_which X11_notesRefused X3_suspectsBy X3_soundsAs X3_noteIn X11_tapNext X3_bestTap X3_hearAll X12_tins X12_wrongTins X12_goesThrough X12_takesAll X12_forged X12_wrongPairs X12_whichOf X12_which X12_kindsBy X12_tapNext ===== -/
theorem kX11_tins_0 : zD cX11_tins 0 1 (.iload_n 2) 1 := by decide +kernel
theorem kX11_tins_1 : zD cX11_tins 1 4 (.invokestatic 150) 3 := by decide +kernel
theorem kX11_tins_4 : zB cX11_tins 4 7 9 (.ifCond .ne 5) 5 := by decide +kernel
theorem kX11_tins_7 : zD cX11_tins 7 8 (.iconst (-1)) 1 := by decide +kernel
theorem kX11_tins_8 : zD cX11_tins 8 9 (.ireturn) 1 := by decide +kernel
theorem kX11_tins_9 : zD cX11_tins 9 10 (.aload_n 0) 1 := by decide +kernel
theorem kX11_tins_10 : zD cX11_tins 10 11 (.iload_n 1) 1 := by decide +kernel
theorem kX11_tins_11 : zD cX11_tins 11 14 (.invokevirtual 229) 3 := by decide +kernel
theorem kX11_tins_14 : zD cX11_tins 14 15 (.istore_n 3) 1 := by decide +kernel
theorem kX11_tins_15 : zD cX11_tins 15 16 (.iload_n 3) 1 := by decide +kernel
theorem kX11_tins_16 : zB cX11_tins 16 19 21 (.ifCond .eq 5) 5 := by decide +kernel
theorem kX11_tins_19 : zD cX11_tins 19 20 (.iload_n 3) 1 := by decide +kernel
theorem kX11_tins_20 : zD cX11_tins 20 21 (.ireturn) 1 := by decide +kernel
theorem kX11_tins_21 : zD cX11_tins 21 22 (.iload_n 2) 1 := by decide +kernel
theorem kX11_tins_22 : zB cX11_tins 22 25 41 (.ifCond .ne 19) 19 := by decide +kernel
theorem kX11_tins_25 : zD cX11_tins 25 26 (.aload_n 0) 1 := by decide +kernel
theorem kX11_tins_26 : zD cX11_tins 26 29 (.getfield 40) 3 := by decide +kernel
theorem kX11_tins_29 : zD cX11_tins 29 30 (.aload_n 0) 1 := by decide +kernel
theorem kX11_tins_30 : zD cX11_tins 30 33 (.getfield 62) 3 := by decide +kernel
theorem kX11_tins_33 : zD cX11_tins 33 34 (.iload_n 1) 1 := by decide +kernel
theorem kX11_tins_34 : zD cX11_tins 34 35 (.aaload) 1 := by decide +kernel
theorem kX11_tins_35 : zD cX11_tins 35 38 (.invokevirtual 232) 3 := by decide +kernel
theorem kX11_tins_38 : zB cX11_tins 38 41 54 (.goto 16) 16 := by decide +kernel
theorem kX11_tins_41 : zD cX11_tins 41 42 (.aload_n 0) 1 := by decide +kernel
theorem kX11_tins_42 : zD cX11_tins 42 45 (.getfield 40) 3 := by decide +kernel
theorem kX11_tins_45 : zD cX11_tins 45 46 (.aload_n 0) 1 := by decide +kernel
theorem kX11_tins_46 : zD cX11_tins 46 49 (.getfield 62) 3 := by decide +kernel
theorem kX11_tins_49 : zD cX11_tins 49 50 (.iload_n 1) 1 := by decide +kernel
theorem kX11_tins_50 : zD cX11_tins 50 51 (.aaload) 1 := by decide +kernel
theorem kX11_tins_51 : zD cX11_tins 51 54 (.invokevirtual 235) 3 := by decide +kernel
theorem kX11_tins_54 : zD cX11_tins 54 55 (.ireturn) 1 := by decide +kernel
set_option maxRecDepth 10000 in
theorem wX11_tins_0 {G : ZG} {d : Nat} {h : ZH} {Q : Option ZV → ZH → Prop} {x1 : Int32} {x2 : Int32} 
  (H : ((0 ≤ x2 ∧ x2 ≤ 1) → zC G (d + 7) mX11_tinsRefused [zr 0 0, zi x1] h (fun r2 h1 => ∃ y3 : Int32, r2 = some (zi y3) ∧ (y3 = 0 → (¬ x2 = 0 → vp_in x1 8 ∧ zC G (d + 7) mX3_firstOfWays [zr 1 0, zr 3 (x1.toNatClampNeg)] h1 (fun r6 h5 => ∃ y7 : Int32, r6 = some (zi y7) ∧ Q (some (zi y7)) h5)) ∧ (x2 = 0 → vp_in x1 8 ∧ zC G (d + 7) mX3_waysTold [zr 1 0, zr 3 (x1.toNatClampNeg)] h1 (fun r10 h9 => ∃ y11 : Int32, r10 = some (zi y11) ∧ Q (some (zi y11)) h9))) ∧ (¬ y3 = 0 → Q (some (zi y3)) h1))) ∧ (¬ (0 ≤ x2 ∧ x2 ≤ 1) → Q (some (zi (-1))) h)) :
  zT G (d + 8) mX11_tins 0 [zr 0 0, zi x1, zi x2, zu] [] h Q := by
  refine zt_iload_n kX11_tins_0 rfl ?_
  refine zt_cS (as := [zi x2]) kX11_tins_1 sRX11_150 rfl (by simp) rfl (sX11_isEither _  ) (fun r h0 hq => ?_)
  obtain ⟨rfl, hh⟩ := hq
  replace hh := hh.symm
  subst hh
  refine zt_ifb_ne kX11_tins_4 (fun c => ?_) (fun c => ?_)
  · replace H := H.1 c
    refine zt_aload_n kX11_tins_9 rfl ?_
    refine zt_iload_n kX11_tins_10 rfl ?_
    refine zt_cV (as := [zi x1]) kX11_tins_11 sRX11_229 rfl (by decide) rfl (by simp) rfl H (fun r2 h1 H => ?_)
    obtain ⟨y3, rfl, H⟩ := H
    refine zt_istore_n (L' := [zr 0 0, zi x1, zi x2, zi y3]) kX11_tins_14 (by decide) rfl ?_
    refine zt_iload_n kX11_tins_15 rfl ?_
    refine zt_if_eq kX11_tins_16 (fun c => ?_) (fun c => ?_)
    · replace H := H.1 c
      refine zt_iload_n kX11_tins_21 rfl ?_
      refine zt_if_ne kX11_tins_22 (fun c => ?_) (fun c => ?_)
      · replace H := H.1 c
        refine zt_aload_n kX11_tins_41 rfl ?_
        refine zt_get (v := zr 1 0) kX11_tins_42 fRX11_40 rfl (by decide) rfl ?_
        refine zt_aload_n kX11_tins_45 rfl ?_
        refine zt_get (v := zr 22 0) kX11_tins_46 fRX11_62 rfl (by decide) rfl ?_
        refine zt_iload_n kX11_tins_49 rfl ?_
        obtain ⟨hv4, H⟩ := H
        refine zt_aaldH kX11_tins_50 hv4 ?_
        refine zt_cV (as := [zr 3 (x1.toNatClampNeg)]) kX11_tins_51 sRX11_235 rfl (by decide) rfl (by simp) rfl H (fun r6 h5 H => ?_)
        obtain ⟨y7, rfl, H⟩ := H
        exact zt_iret kX11_tins_54 rfl H
      · replace H := H.2 c
        refine zt_aload_n kX11_tins_25 rfl ?_
        refine zt_get (v := zr 1 0) kX11_tins_26 fRX11_40 rfl (by decide) rfl ?_
        refine zt_aload_n kX11_tins_29 rfl ?_
        refine zt_get (v := zr 22 0) kX11_tins_30 fRX11_62 rfl (by decide) rfl ?_
        refine zt_iload_n kX11_tins_33 rfl ?_
        obtain ⟨hv8, H⟩ := H
        refine zt_aaldH kX11_tins_34 hv8 ?_
        refine zt_cV (as := [zr 3 (x1.toNatClampNeg)]) kX11_tins_35 sRX11_232 rfl (by decide) rfl (by simp) rfl H (fun r10 h9 H => ?_)
        obtain ⟨y11, rfl, H⟩ := H
        refine zt_goto kX11_tins_38 ?_
        exact zt_iret kX11_tins_54 rfl H
    · replace H := H.2 c
      refine zt_iload_n kX11_tins_19 rfl ?_
      exact zt_iret kX11_tins_20 rfl H
  · replace H := H.2 c
    refine zt_iconst (v := (-1)) kX11_tins_7 rfl ?_
    exact zt_iret kX11_tins_8 rfl H

theorem kX11_tinsRefused_0 : zD cX11_tinsRefused 0 1 (.aload_n 0) 1 := by decide +kernel
theorem kX11_tinsRefused_1 : zD cX11_tinsRefused 1 2 (.iload_n 1) 1 := by decide +kernel
theorem kX11_tinsRefused_2 : zD cX11_tinsRefused 2 5 (.invokevirtual 71) 3 := by decide +kernel
theorem kX11_tinsRefused_5 : zD cX11_tinsRefused 5 6 (.istore_n 2) 1 := by decide +kernel
theorem kX11_tinsRefused_6 : zD cX11_tinsRefused 6 7 (.iload_n 2) 1 := by decide +kernel
theorem kX11_tinsRefused_7 : zB cX11_tinsRefused 7 10 12 (.ifCond .eq 5) 5 := by decide +kernel
theorem kX11_tinsRefused_10 : zD cX11_tinsRefused 10 11 (.iload_n 2) 1 := by decide +kernel
theorem kX11_tinsRefused_11 : zD cX11_tinsRefused 11 12 (.ireturn) 1 := by decide +kernel
theorem kX11_tinsRefused_12 : zD cX11_tinsRefused 12 13 (.aload_n 0) 1 := by decide +kernel
theorem kX11_tinsRefused_13 : zD cX11_tinsRefused 13 16 (.getfield 62) 3 := by decide +kernel
theorem kX11_tinsRefused_16 : zD cX11_tinsRefused 16 17 (.iload_n 1) 1 := by decide +kernel
theorem kX11_tinsRefused_17 : zD cX11_tinsRefused 17 18 (.aaload) 1 := by decide +kernel
theorem kX11_tinsRefused_18 : zD cX11_tinsRefused 18 21 (.getfield 241) 3 := by decide +kernel
theorem kX11_tinsRefused_21 : zD cX11_tinsRefused 21 22 (.iconst 4) 1 := by decide +kernel
theorem kX11_tinsRefused_22 : zB cX11_tinsRefused 22 25 30 (.if_icmp .le 8) 8 := by decide +kernel
theorem kX11_tinsRefused_25 : zD cX11_tinsRefused 25 27 (.bipush (-13)) 2 := by decide +kernel
theorem kX11_tinsRefused_27 : zB cX11_tinsRefused 27 30 31 (.goto 4) 4 := by decide +kernel
theorem kX11_tinsRefused_30 : zD cX11_tinsRefused 30 31 (.iconst 0) 1 := by decide +kernel
theorem kX11_tinsRefused_31 : zD cX11_tinsRefused 31 32 (.ireturn) 1 := by decide +kernel
set_option maxRecDepth 10000 in
theorem wX11_tinsRefused_0 {G : ZG} {d : Nat} {h : ZH} {Q : Option ZV → ZH → Prop} {x1 : Int32} 
  (H : ((rowRefI h x1) = 0 → vp_in x1 8 ∧ ((h.1 3 (x1.toNatClampNeg) 4) ≤ 4 → Q (some (zi 0)) h) ∧ (¬ (h.1 3 (x1.toNatClampNeg) 4) ≤ 4 → Q (some (zi (-13))) h)) ∧ (¬ (rowRefI h x1) = 0 → Q (some (zi (rowRefI h x1))) h)) :
  zT G (d + 3) mX11_tinsRefused 0 [zr 0 0, zi x1, zu] [] h Q := by
  refine zt_aload_n kX11_tinsRefused_0 rfl ?_
  refine zt_iload_n kX11_tinsRefused_1 rfl ?_
  refine zt_cV (as := [zi x1]) kX11_tinsRefused_2 sRX11_71 rfl (by decide) rfl (by simp) rfl (sX11_rowRefused _  ) (fun r h0 hq => ?_)
  obtain ⟨rfl, hh⟩ := hq
  replace hh := hh.symm
  subst hh
  refine zt_istore_n (L' := [zr 0 0, zi x1, zi (rowRefI h x1)]) kX11_tinsRefused_5 (by decide) rfl ?_
  refine zt_iload_n kX11_tinsRefused_6 rfl ?_
  refine zt_if_eq kX11_tinsRefused_7 (fun c => ?_) (fun c => ?_)
  · replace H := H.1 c
    refine zt_aload_n kX11_tinsRefused_12 rfl ?_
    refine zt_get (v := zr 22 0) kX11_tinsRefused_13 fRX11_62 rfl (by decide) rfl ?_
    refine zt_iload_n kX11_tinsRefused_16 rfl ?_
    obtain ⟨hv1, H⟩ := H
    refine zt_aaldH kX11_tinsRefused_17 hv1 ?_
    refine zt_get (v := zi (h.1 3 (x1.toNatClampNeg) 4)) kX11_tinsRefused_18 fRX11_241 rfl (zok3 hv1) rfl ?_
    refine zt_iconst (v := 4) kX11_tinsRefused_21 rfl ?_
    refine zt_icmp_le kX11_tinsRefused_22 (fun c => ?_) (fun c => ?_)
    · replace H := H.1 c
      refine zt_iconst (v := 0) kX11_tinsRefused_30 rfl ?_
      exact zt_iret kX11_tinsRefused_31 rfl H
    · replace H := H.2 c
      refine zt_bipush (v := (-13)) kX11_tinsRefused_25 rfl ?_
      refine zt_goto kX11_tinsRefused_27 ?_
      exact zt_iret kX11_tinsRefused_31 rfl H
  · replace H := H.2 c
    refine zt_iload_n kX11_tinsRefused_10 rfl ?_
    exact zt_iret kX11_tinsRefused_11 rfl H

theorem kX3_waysTold_0 : zD cX3_waysTold 0 1 (.aload_n 0) 1 := by decide +kernel
theorem kX3_waysTold_1 : zD cX3_waysTold 1 2 (.aload_n 0) 1 := by decide +kernel
theorem kX3_waysTold_2 : zD cX3_waysTold 2 5 (.getfield 12) 3 := by decide +kernel
theorem kX3_waysTold_5 : zD cX3_waysTold 5 8 (.getfield 49) 3 := by decide +kernel
theorem kX3_waysTold_8 : zD cX3_waysTold 8 9 (.aload_n 1) 1 := by decide +kernel
theorem kX3_waysTold_9 : zD cX3_waysTold 9 10 (.iconst 0) 1 := by decide +kernel
theorem kX3_waysTold_10 : zD cX3_waysTold 10 13 (.invokevirtual 137) 3 := by decide +kernel
theorem kX3_waysTold_13 : zD cX3_waysTold 13 14 (.ireturn) 1 := by decide +kernel
set_option maxRecDepth 10000 in
theorem wX3_waysTold_0 {G : ZG} {d : Nat} {h : ZH} {Q : Option ZV → ZH → Prop} {i1 : Nat} (hi1 : i1 < zcnt 3)
  (H : zC G (d + 6) mX3_waysFrom [zr 1 0, zi (h.1 2 0 6), zr 3 i1, zi 0] h (fun r2 h1 => ∃ y3 : Int32, r2 = some (zi y3) ∧ Q (some (zi y3)) h1)) :
  zT G (d + 7) mX3_waysTold 0 [zr 1 0, zr 3 i1] [] h Q := by
  refine zt_aload_n kX3_waysTold_0 rfl ?_
  refine zt_aload_n kX3_waysTold_1 rfl ?_
  refine zt_get (v := zr 2 0) kX3_waysTold_2 fRX3_12 rfl (by decide) rfl ?_
  refine zt_get (v := zi (h.1 2 0 6)) kX3_waysTold_5 fRX3_49 rfl (by decide) rfl ?_
  refine zt_aload_n kX3_waysTold_8 rfl ?_
  refine zt_iconst (v := 0) kX3_waysTold_9 rfl ?_
  refine zt_cV (as := [zi (h.1 2 0 6), zr 3 i1, zi 0]) kX3_waysTold_10 sRX3_137 rfl (by decide) rfl (by simp) rfl H (fun r2 h1 H => ?_)
  obtain ⟨y3, rfl, H⟩ := H
  exact zt_iret kX3_waysTold_13 rfl H

theorem kX3_firstOfWays_0 : zD cX3_firstOfWays 0 1 (.iconst 0) 1 := by decide +kernel
theorem kX3_firstOfWays_1 : zD cX3_firstOfWays 1 2 (.istore_n 2) 1 := by decide +kernel
theorem kX3_firstOfWays_2 : zD cX3_firstOfWays 2 3 (.iload_n 2) 1 := by decide +kernel
theorem kX3_firstOfWays_3 : zD cX3_firstOfWays 3 5 (.bipush 12) 2 := by decide +kernel
theorem kX3_firstOfWays_5 : zB cX3_firstOfWays 5 8 72 (.if_icmp .ge 67) 67 := by decide +kernel
theorem kX3_firstOfWays_8 : zD cX3_firstOfWays 8 9 (.aload_n 1) 1 := by decide +kernel
theorem kX3_firstOfWays_9 : zD cX3_firstOfWays 9 12 (.getfield 103) 3 := by decide +kernel
theorem kX3_firstOfWays_12 : zB cX3_firstOfWays 12 15 72 (.ifCond .le 60) 60 := by decide +kernel
theorem kX3_firstOfWays_15 : zD cX3_firstOfWays 15 16 (.aload_n 0) 1 := by decide +kernel
theorem kX3_firstOfWays_16 : zD cX3_firstOfWays 16 17 (.aload_n 0) 1 := by decide +kernel
theorem kX3_firstOfWays_17 : zD cX3_firstOfWays 17 20 (.getfield 12) 3 := by decide +kernel
theorem kX3_firstOfWays_20 : zD cX3_firstOfWays 20 23 (.getfield 49) 3 := by decide +kernel
theorem kX3_firstOfWays_23 : zD cX3_firstOfWays 23 24 (.iload_n 2) 1 := by decide +kernel
theorem kX3_firstOfWays_24 : zD cX3_firstOfWays 24 25 (.aload_n 1) 1 := by decide +kernel
theorem kX3_firstOfWays_25 : zD cX3_firstOfWays 25 26 (.iconst 0) 1 := by decide +kernel
theorem kX3_firstOfWays_26 : zD cX3_firstOfWays 26 29 (.invokevirtual 108) 3 := by decide +kernel
theorem kX3_firstOfWays_29 : zD cX3_firstOfWays 29 32 (.invokevirtual 141) 3 := by decide +kernel
theorem kX3_firstOfWays_32 : zB cX3_firstOfWays 32 35 38 (.ifCond .ne 6) 6 := by decide +kernel
theorem kX3_firstOfWays_35 : zB cX3_firstOfWays 35 38 66 (.goto 31) 31 := by decide +kernel
theorem kX3_firstOfWays_38 : zD cX3_firstOfWays 38 39 (.aload_n 0) 1 := by decide +kernel
theorem kX3_firstOfWays_39 : zD cX3_firstOfWays 39 40 (.aload_n 0) 1 := by decide +kernel
theorem kX3_firstOfWays_40 : zD cX3_firstOfWays 40 41 (.aload_n 0) 1 := by decide +kernel
theorem kX3_firstOfWays_41 : zD cX3_firstOfWays 41 44 (.getfield 12) 3 := by decide +kernel
theorem kX3_firstOfWays_44 : zD cX3_firstOfWays 44 47 (.getfield 49) 3 := by decide +kernel
theorem kX3_firstOfWays_47 : zD cX3_firstOfWays 47 48 (.iconst 1) 1 := by decide +kernel
theorem kX3_firstOfWays_48 : zD cX3_firstOfWays 48 49 (.iload_n 2) 1 := by decide +kernel
theorem kX3_firstOfWays_49 : zD cX3_firstOfWays 49 50 (.ishl) 1 := by decide +kernel
theorem kX3_firstOfWays_50 : zD cX3_firstOfWays 50 51 (.iconst (-1)) 1 := by decide +kernel
theorem kX3_firstOfWays_51 : zD cX3_firstOfWays 51 52 (.ixor) 1 := by decide +kernel
theorem kX3_firstOfWays_52 : zD cX3_firstOfWays 52 53 (.iand) 1 := by decide +kernel
theorem kX3_firstOfWays_53 : zD cX3_firstOfWays 53 56 (.invokevirtual 52) 3 := by decide +kernel
theorem kX3_firstOfWays_56 : zD cX3_firstOfWays 56 57 (.aload_n 1) 1 := by decide +kernel
theorem kX3_firstOfWays_57 : zD cX3_firstOfWays 57 58 (.iconst 1) 1 := by decide +kernel
theorem kX3_firstOfWays_58 : zD cX3_firstOfWays 58 61 (.invokevirtual 137) 3 := by decide +kernel
theorem kX3_firstOfWays_61 : zB cX3_firstOfWays 61 64 66 (.ifCond .le 5) 5 := by decide +kernel
theorem kX3_firstOfWays_64 : zD cX3_firstOfWays 64 65 (.iload_n 2) 1 := by decide +kernel
theorem kX3_firstOfWays_65 : zD cX3_firstOfWays 65 66 (.ireturn) 1 := by decide +kernel
theorem kX3_firstOfWays_66 : zD cX3_firstOfWays 66 69 (.iinc 2 1) 3 := by decide +kernel
theorem kX3_firstOfWays_69 : zB cX3_firstOfWays 69 72 2 (.goto (-67)) (-67) := by decide +kernel
theorem kX3_firstOfWays_72 : zD cX3_firstOfWays 72 74 (.bipush (-4)) 2 := by decide +kernel
theorem kX3_firstOfWays_74 : zD cX3_firstOfWays 74 75 (.ireturn) 1 := by decide +kernel
set_option maxRecDepth 10000 in
theorem wX3_firstOfWays_0 {G : ZG} {d : Nat} {h : ZH} {Q : Option ZV → ZH → Prop} {i1 : Nat} (hi1 : i1 < zcnt 3)
  (H : zT G (d + 7) mX3_firstOfWays 2 [zr 1 0, zr 3 i1, zi 0] [] h Q) :
  zT G (d + 7) mX3_firstOfWays 0 [zr 1 0, zr 3 i1, zu] [] h Q := by
  refine zt_iconst (v := 0) kX3_firstOfWays_0 rfl ?_
  refine zt_istore_n (L' := [zr 1 0, zr 3 i1, zi 0]) kX3_firstOfWays_1 (by decide) rfl ?_
  exact H

set_option maxRecDepth 10000 in
theorem wX3_firstOfWays_2 {G : ZG} {d : Nat} {h : ZH} {Q : Option ZV → ZH → Prop} {i1 : Nat} {x2 : Int32} (hi1 : i1 < zcnt 3)
  (H : (12 ≤ x2 → Q (some (zi (-4))) h) ∧ (¬ 12 ≤ x2 → ((h.1 3 i1 4) ≤ 0 → Q (some (zi (-4))) h) ∧ (¬ (h.1 3 i1 4) ≤ 0 → h.1 3 i1 4 ≤ 100 ∧ (zC G (d + 6) mX3_isTold [zr 1 0, zi (h.1 2 0 6), zi x2, zi (shAt h i1 (0 : Int32))] h (fun r2 h1 => ∃ y3 : Int32, r2 = some (zi y3) ∧ (¬ y3 = 0 → zC G (d + 6) mX3_leftOf [zr 1 0, zi ((h1.1 2 0 6) &&& (((1 : Int32) <<< (x2 &&& 31)) ^^^ (-1)))] h1 (fun r5 h4 => ∃ y6 : Int32, r5 = some (zi y6) ∧ zC G (d + 6) mX3_waysFrom [zr 1 0, zi y6, zr 3 i1, zi 1] h4 (fun r8 h7 => ∃ y9 : Int32, r8 = some (zi y9) ∧ (y9 ≤ 0 → zT G (d + 7) mX3_firstOfWays 2 [zr 1 0, zr 3 i1, zi (x2 + 1)] [] h7 Q) ∧ (¬ y9 ≤ 0 → Q (some (zi x2)) h7)))) ∧ (y3 = 0 → zT G (d + 7) mX3_firstOfWays 2 [zr 1 0, zr 3 i1, zi (x2 + 1)] [] h1 Q)))))) :
  zT G (d + 7) mX3_firstOfWays 2 [zr 1 0, zr 3 i1, zi x2] [] h Q := by
  refine zt_iload_n kX3_firstOfWays_2 rfl ?_
  refine zt_bipush (v := 12) kX3_firstOfWays_3 rfl ?_
  refine zt_icmp_ge kX3_firstOfWays_5 (fun c => ?_) (fun c => ?_)
  · replace H := H.1 c
    refine zt_bipush (v := (-4)) kX3_firstOfWays_72 rfl ?_
    exact zt_iret kX3_firstOfWays_74 rfl H
  · replace H := H.2 c
    refine zt_aload_n kX3_firstOfWays_8 rfl ?_
    refine zt_get (v := zi (h.1 3 i1 4)) kX3_firstOfWays_9 fRX3_103 rfl hi1 rfl ?_
    refine zt_if_le kX3_firstOfWays_12 (fun c => ?_) (fun c => ?_)
    · replace H := H.1 c
      refine zt_bipush (v := (-4)) kX3_firstOfWays_72 rfl ?_
      exact zt_iret kX3_firstOfWays_74 rfl H
    · replace H := H.2 c
      refine zt_aload_n kX3_firstOfWays_15 rfl ?_
      refine zt_aload_n kX3_firstOfWays_16 rfl ?_
      refine zt_get (v := zr 2 0) kX3_firstOfWays_17 fRX3_12 rfl (by decide) rfl ?_
      refine zt_get (v := zi (h.1 2 0 6)) kX3_firstOfWays_20 fRX3_49 rfl (by decide) rfl ?_
      refine zt_iload_n kX3_firstOfWays_23 rfl ?_
      refine zt_aload_n kX3_firstOfWays_24 rfl ?_
      refine zt_iconst (v := 0) kX3_firstOfWays_25 rfl ?_
      obtain ⟨pp0, H⟩ := H
      refine zt_cV (as := [zi 0]) kX3_firstOfWays_26 sRX3_108 rfl hi1 rfl (by simp) rfl (sX8_at _ hi1 pp0) (fun r h0 hq => ?_)
      obtain ⟨rfl, hh⟩ := hq
      replace hh := hh.symm
      subst hh
      refine zt_cV (as := [zi (h.1 2 0 6), zi x2, zi (shAt h i1 (0 : Int32))]) kX3_firstOfWays_29 sRX3_141 rfl (by decide) rfl (by simp) rfl H (fun r2 h1 H => ?_)
      obtain ⟨y3, rfl, H⟩ := H
      refine zt_if_ne kX3_firstOfWays_32 (fun c => ?_) (fun c => ?_)
      · replace H := H.1 c
        refine zt_aload_n kX3_firstOfWays_38 rfl ?_
        refine zt_aload_n kX3_firstOfWays_39 rfl ?_
        refine zt_aload_n kX3_firstOfWays_40 rfl ?_
        refine zt_get (v := zr 2 0) kX3_firstOfWays_41 fRX3_12 rfl (by decide) rfl ?_
        refine zt_get (v := zi (h1.1 2 0 6)) kX3_firstOfWays_44 fRX3_49 rfl (by decide) rfl ?_
        refine zt_iconst (v := 1) kX3_firstOfWays_47 rfl ?_
        refine zt_iload_n kX3_firstOfWays_48 rfl ?_
        refine zt_ishl kX3_firstOfWays_49 ?_
        refine zt_iconst (v := (-1)) kX3_firstOfWays_50 rfl ?_
        refine zt_ixor kX3_firstOfWays_51 ?_
        refine zt_iand kX3_firstOfWays_52 ?_
        refine zt_cV (as := [zi ((h1.1 2 0 6) &&& (((1 : Int32) <<< (x2 &&& 31)) ^^^ (-1)))]) kX3_firstOfWays_53 sRX3_52 rfl (by decide) rfl (by simp) rfl H (fun r5 h4 H => ?_)
        obtain ⟨y6, rfl, H⟩ := H
        refine zt_aload_n kX3_firstOfWays_56 rfl ?_
        refine zt_iconst (v := 1) kX3_firstOfWays_57 rfl ?_
        refine zt_cV (as := [zi y6, zr 3 i1, zi 1]) kX3_firstOfWays_58 sRX3_137 rfl (by decide) rfl (by simp) rfl H (fun r8 h7 H => ?_)
        obtain ⟨y9, rfl, H⟩ := H
        refine zt_if_le kX3_firstOfWays_61 (fun c => ?_) (fun c => ?_)
        · replace H := H.1 c
          refine zt_iinc (v := (x2 + 1)) (L' := [zr 1 0, zr 3 i1, zi (x2 + 1)]) kX3_firstOfWays_66 rfl rfl (by decide) rfl ?_
          refine zt_goto kX3_firstOfWays_69 ?_
          exact H
        · replace H := H.2 c
          refine zt_iload_n kX3_firstOfWays_64 rfl ?_
          exact zt_iret kX3_firstOfWays_65 rfl H
      · replace H := H.2 c
        refine zt_goto kX3_firstOfWays_35 ?_
        refine zt_iinc (v := (x2 + 1)) (L' := [zr 1 0, zr 3 i1, zi (x2 + 1)]) kX3_firstOfWays_66 rfl rfl (by decide) rfl ?_
        refine zt_goto kX3_firstOfWays_69 ?_
        exact H

theorem kX3_waysFrom_0 : zD cX3_waysFrom 0 1 (.iload_n 3) 1 := by decide +kernel
theorem kX3_waysFrom_1 : zD cX3_waysFrom 1 2 (.aload_n 2) 1 := by decide +kernel
theorem kX3_waysFrom_2 : zD cX3_waysFrom 2 5 (.getfield 103) 3 := by decide +kernel
theorem kX3_waysFrom_5 : zB cX3_waysFrom 5 8 13 (.if_icmp .ge 8) 8 := by decide +kernel
theorem kX3_waysFrom_8 : zD cX3_waysFrom 8 9 (.iload_n 3) 1 := by decide +kernel
theorem kX3_waysFrom_9 : zD cX3_waysFrom 9 10 (.iconst 4) 1 := by decide +kernel
theorem kX3_waysFrom_10 : zB cX3_waysFrom 10 13 15 (.if_icmp .lt 5) 5 := by decide +kernel
theorem kX3_waysFrom_13 : zD cX3_waysFrom 13 14 (.iconst 1) 1 := by decide +kernel
theorem kX3_waysFrom_14 : zD cX3_waysFrom 14 15 (.ireturn) 1 := by decide +kernel
theorem kX3_waysFrom_15 : zD cX3_waysFrom 15 16 (.iconst 0) 1 := by decide +kernel
theorem kX3_waysFrom_16 : zD cX3_waysFrom 16 18 (.istore 4) 2 := by decide +kernel
theorem kX3_waysFrom_18 : zD cX3_waysFrom 18 19 (.iconst 0) 1 := by decide +kernel
theorem kX3_waysFrom_19 : zD cX3_waysFrom 19 21 (.istore 5) 2 := by decide +kernel
theorem kX3_waysFrom_21 : zD cX3_waysFrom 21 23 (.iload 5) 2 := by decide +kernel
theorem kX3_waysFrom_23 : zD cX3_waysFrom 23 25 (.bipush 12) 2 := by decide +kernel
theorem kX3_waysFrom_25 : zB cX3_waysFrom 25 28 74 (.if_icmp .ge 49) 49 := by decide +kernel
theorem kX3_waysFrom_28 : zD cX3_waysFrom 28 29 (.aload_n 0) 1 := by decide +kernel
theorem kX3_waysFrom_29 : zD cX3_waysFrom 29 30 (.iload_n 1) 1 := by decide +kernel
theorem kX3_waysFrom_30 : zD cX3_waysFrom 30 32 (.iload 5) 2 := by decide +kernel
theorem kX3_waysFrom_32 : zD cX3_waysFrom 32 33 (.aload_n 2) 1 := by decide +kernel
theorem kX3_waysFrom_33 : zD cX3_waysFrom 33 34 (.iload_n 3) 1 := by decide +kernel
theorem kX3_waysFrom_34 : zD cX3_waysFrom 34 37 (.invokevirtual 108) 3 := by decide +kernel
theorem kX3_waysFrom_37 : zD cX3_waysFrom 37 40 (.invokevirtual 141) 3 := by decide +kernel
theorem kX3_waysFrom_40 : zB cX3_waysFrom 40 43 68 (.ifCond .eq 28) 28 := by decide +kernel
theorem kX3_waysFrom_43 : zD cX3_waysFrom 43 45 (.iload 4) 2 := by decide +kernel
theorem kX3_waysFrom_45 : zD cX3_waysFrom 45 46 (.aload_n 0) 1 := by decide +kernel
theorem kX3_waysFrom_46 : zD cX3_waysFrom 46 47 (.aload_n 0) 1 := by decide +kernel
theorem kX3_waysFrom_47 : zD cX3_waysFrom 47 48 (.iload_n 1) 1 := by decide +kernel
theorem kX3_waysFrom_48 : zD cX3_waysFrom 48 49 (.iconst 1) 1 := by decide +kernel
theorem kX3_waysFrom_49 : zD cX3_waysFrom 49 51 (.iload 5) 2 := by decide +kernel
theorem kX3_waysFrom_51 : zD cX3_waysFrom 51 52 (.ishl) 1 := by decide +kernel
theorem kX3_waysFrom_52 : zD cX3_waysFrom 52 53 (.iconst (-1)) 1 := by decide +kernel
theorem kX3_waysFrom_53 : zD cX3_waysFrom 53 54 (.ixor) 1 := by decide +kernel
theorem kX3_waysFrom_54 : zD cX3_waysFrom 54 55 (.iand) 1 := by decide +kernel
theorem kX3_waysFrom_55 : zD cX3_waysFrom 55 58 (.invokevirtual 52) 3 := by decide +kernel
theorem kX3_waysFrom_58 : zD cX3_waysFrom 58 59 (.aload_n 2) 1 := by decide +kernel
theorem kX3_waysFrom_59 : zD cX3_waysFrom 59 60 (.iload_n 3) 1 := by decide +kernel
theorem kX3_waysFrom_60 : zD cX3_waysFrom 60 61 (.iconst 1) 1 := by decide +kernel
theorem kX3_waysFrom_61 : zD cX3_waysFrom 61 62 (.iadd) 1 := by decide +kernel
theorem kX3_waysFrom_62 : zD cX3_waysFrom 62 65 (.invokevirtual 137) 3 := by decide +kernel
theorem kX3_waysFrom_65 : zD cX3_waysFrom 65 66 (.iadd) 1 := by decide +kernel
theorem kX3_waysFrom_66 : zD cX3_waysFrom 66 68 (.istore 4) 2 := by decide +kernel
theorem kX3_waysFrom_68 : zD cX3_waysFrom 68 71 (.iinc 5 1) 3 := by decide +kernel
theorem kX3_waysFrom_71 : zB cX3_waysFrom 71 74 21 (.goto (-50)) (-50) := by decide +kernel
theorem kX3_waysFrom_74 : zD cX3_waysFrom 74 76 (.iload 4) 2 := by decide +kernel
theorem kX3_waysFrom_76 : zD cX3_waysFrom 76 77 (.ireturn) 1 := by decide +kernel
set_option maxRecDepth 10000 in
theorem wX3_waysFrom_0 {G : ZG} {d : Nat} {h : ZH} {Q : Option ZV → ZH → Prop} {x1 : Int32} {i2 : Nat} {x3 : Int32} (hi2 : i2 < zcnt 3)
  (H : ((h.1 3 i2 4) ≤ x3 → Q (some (zi 1)) h) ∧ (¬ (h.1 3 i2 4) ≤ x3 → (x3 < 4 → zT G (d + 6) mX3_waysFrom 21 [zr 1 0, zi x1, zr 3 i2, zi x3, zi 0, zi 0] [] h Q) ∧ (¬ x3 < 4 → Q (some (zi 1)) h))) :
  zT G (d + 6) mX3_waysFrom 0 [zr 1 0, zi x1, zr 3 i2, zi x3, zu, zu] [] h Q := by
  refine zt_iload_n kX3_waysFrom_0 rfl ?_
  refine zt_aload_n kX3_waysFrom_1 rfl ?_
  refine zt_get (v := zi (h.1 3 i2 4)) kX3_waysFrom_2 fRX3_103 rfl hi2 rfl ?_
  refine zt_icmp_ge kX3_waysFrom_5 (fun c => ?_) (fun c => ?_)
  · replace H := H.1 c
    refine zt_iconst (v := 1) kX3_waysFrom_13 rfl ?_
    exact zt_iret kX3_waysFrom_14 rfl H
  · replace H := H.2 c
    refine zt_iload_n kX3_waysFrom_8 rfl ?_
    refine zt_iconst (v := 4) kX3_waysFrom_9 rfl ?_
    refine zt_icmp_lt kX3_waysFrom_10 (fun c => ?_) (fun c => ?_)
    · replace H := H.1 c
      refine zt_iconst (v := 0) kX3_waysFrom_15 rfl ?_
      refine zt_istore (L' := [zr 1 0, zi x1, zr 3 i2, zi x3, zi 0, zu]) kX3_waysFrom_16 (by decide) rfl ?_
      refine zt_iconst (v := 0) kX3_waysFrom_18 rfl ?_
      refine zt_istore (L' := [zr 1 0, zi x1, zr 3 i2, zi x3, zi 0, zi 0]) kX3_waysFrom_19 (by decide) rfl ?_
      exact H
    · replace H := H.2 c
      refine zt_iconst (v := 1) kX3_waysFrom_13 rfl ?_
      exact zt_iret kX3_waysFrom_14 rfl H

set_option maxRecDepth 10000 in
theorem wX3_waysFrom_21 {G : ZG} {d : Nat} {h : ZH} {Q : Option ZV → ZH → Prop} {x1 : Int32} {i2 : Nat} {x3 : Int32} {x4 : Int32} {x5 : Int32} (hi2 : i2 < zcnt 3)
  (H : (12 ≤ x5 → Q (some (zi x4)) h) ∧ (¬ 12 ≤ x5 → h.1 3 i2 4 ≤ 100 ∧ (zC G (d + 5) mX3_isTold [zr 1 0, zi x1, zi x5, zi (shAt h i2 x3)] h (fun r2 h1 => ∃ y3 : Int32, r2 = some (zi y3) ∧ (y3 = 0 → zT G (d + 6) mX3_waysFrom 21 [zr 1 0, zi x1, zr 3 i2, zi x3, zi x4, zi (x5 + 1)] [] h1 Q) ∧ (¬ y3 = 0 → zC G (d + 5) mX3_leftOf [zr 1 0, zi (x1 &&& (((1 : Int32) <<< (x5 &&& 31)) ^^^ (-1)))] h1 (fun r5 h4 => ∃ y6 : Int32, r5 = some (zi y6) ∧ zC G (d + 5) mX3_waysFrom [zr 1 0, zi y6, zr 3 i2, zi (x3 + 1)] h4 (fun r8 h7 => ∃ y9 : Int32, r8 = some (zi y9) ∧ zT G (d + 6) mX3_waysFrom 21 [zr 1 0, zi x1, zr 3 i2, zi x3, zi (x4 + y9), zi (x5 + 1)] [] h7 Q))))))) :
  zT G (d + 6) mX3_waysFrom 21 [zr 1 0, zi x1, zr 3 i2, zi x3, zi x4, zi x5] [] h Q := by
  refine zt_iload kX3_waysFrom_21 rfl ?_
  refine zt_bipush (v := 12) kX3_waysFrom_23 rfl ?_
  refine zt_icmp_ge kX3_waysFrom_25 (fun c => ?_) (fun c => ?_)
  · replace H := H.1 c
    refine zt_iload kX3_waysFrom_74 rfl ?_
    exact zt_iret kX3_waysFrom_76 rfl H
  · replace H := H.2 c
    refine zt_aload_n kX3_waysFrom_28 rfl ?_
    refine zt_iload_n kX3_waysFrom_29 rfl ?_
    refine zt_iload kX3_waysFrom_30 rfl ?_
    refine zt_aload_n kX3_waysFrom_32 rfl ?_
    refine zt_iload_n kX3_waysFrom_33 rfl ?_
    obtain ⟨pp0, H⟩ := H
    refine zt_cV (as := [zi x3]) kX3_waysFrom_34 sRX3_108 rfl hi2 rfl (by simp) rfl (sX8_at _ hi2 pp0) (fun r h0 hq => ?_)
    obtain ⟨rfl, hh⟩ := hq
    replace hh := hh.symm
    subst hh
    refine zt_cV (as := [zi x1, zi x5, zi (shAt h i2 x3)]) kX3_waysFrom_37 sRX3_141 rfl (by decide) rfl (by simp) rfl H (fun r2 h1 H => ?_)
    obtain ⟨y3, rfl, H⟩ := H
    refine zt_if_eq kX3_waysFrom_40 (fun c => ?_) (fun c => ?_)
    · replace H := H.1 c
      refine zt_iinc (v := (x5 + 1)) (L' := [zr 1 0, zi x1, zr 3 i2, zi x3, zi x4, zi (x5 + 1)]) kX3_waysFrom_68 rfl rfl (by decide) rfl ?_
      refine zt_goto kX3_waysFrom_71 ?_
      exact H
    · replace H := H.2 c
      refine zt_iload kX3_waysFrom_43 rfl ?_
      refine zt_aload_n kX3_waysFrom_45 rfl ?_
      refine zt_aload_n kX3_waysFrom_46 rfl ?_
      refine zt_iload_n kX3_waysFrom_47 rfl ?_
      refine zt_iconst (v := 1) kX3_waysFrom_48 rfl ?_
      refine zt_iload kX3_waysFrom_49 rfl ?_
      refine zt_ishl kX3_waysFrom_51 ?_
      refine zt_iconst (v := (-1)) kX3_waysFrom_52 rfl ?_
      refine zt_ixor kX3_waysFrom_53 ?_
      refine zt_iand kX3_waysFrom_54 ?_
      refine zt_cV (as := [zi (x1 &&& (((1 : Int32) <<< (x5 &&& 31)) ^^^ (-1)))]) kX3_waysFrom_55 sRX3_52 rfl (by decide) rfl (by simp) rfl H (fun r5 h4 H => ?_)
      obtain ⟨y6, rfl, H⟩ := H
      refine zt_aload_n kX3_waysFrom_58 rfl ?_
      refine zt_iload_n kX3_waysFrom_59 rfl ?_
      refine zt_iconst (v := 1) kX3_waysFrom_60 rfl ?_
      refine zt_iadd kX3_waysFrom_61 ?_
      refine zt_cV (as := [zi y6, zr 3 i2, zi (x3 + 1)]) kX3_waysFrom_62 sRX3_137 rfl (by decide) rfl (by simp) rfl H (fun r8 h7 H => ?_)
      obtain ⟨y9, rfl, H⟩ := H
      refine zt_iadd kX3_waysFrom_65 ?_
      refine zt_istore (L' := [zr 1 0, zi x1, zr 3 i2, zi x3, zi (x4 + y9), zi x5]) kX3_waysFrom_66 (by decide) rfl ?_
      refine zt_iinc (v := (x5 + 1)) (L' := [zr 1 0, zi x1, zr 3 i2, zi x3, zi (x4 + y9), zi (x5 + 1)]) kX3_waysFrom_68 rfl rfl (by decide) rfl ?_
      refine zt_goto kX3_waysFrom_71 ?_
      exact H

theorem kX3_isTold_0 : zD cX3_isTold 0 1 (.iload_n 1) 1 := by decide +kernel
theorem kX3_isTold_1 : zD cX3_isTold 1 2 (.iload_n 2) 1 := by decide +kernel
theorem kX3_isTold_2 : zD cX3_isTold 2 3 (.ishr) 1 := by decide +kernel
theorem kX3_isTold_3 : zD cX3_isTold 3 4 (.iconst 1) 1 := by decide +kernel
theorem kX3_isTold_4 : zD cX3_isTold 4 5 (.iand) 1 := by decide +kernel
theorem kX3_isTold_5 : zB cX3_isTold 5 8 30 (.ifCond .eq 25) 25 := by decide +kernel
theorem kX3_isTold_8 : zD cX3_isTold 8 9 (.aload_n 0) 1 := by decide +kernel
theorem kX3_isTold_9 : zD cX3_isTold 9 10 (.iload_n 1) 1 := by decide +kernel
theorem kX3_isTold_10 : zD cX3_isTold 10 11 (.iconst 1) 1 := by decide +kernel
theorem kX3_isTold_11 : zD cX3_isTold 11 12 (.iload_n 2) 1 := by decide +kernel
theorem kX3_isTold_12 : zD cX3_isTold 12 13 (.ishl) 1 := by decide +kernel
theorem kX3_isTold_13 : zD cX3_isTold 13 14 (.iconst (-1)) 1 := by decide +kernel
theorem kX3_isTold_14 : zD cX3_isTold 14 15 (.ixor) 1 := by decide +kernel
theorem kX3_isTold_15 : zD cX3_isTold 15 16 (.iand) 1 := by decide +kernel
theorem kX3_isTold_16 : zD cX3_isTold 16 19 (.invokevirtual 52) 3 := by decide +kernel
theorem kX3_isTold_19 : zD cX3_isTold 19 22 (.invokestatic 56) 3 := by decide +kernel
theorem kX3_isTold_22 : zD cX3_isTold 22 23 (.iload_n 3) 1 := by decide +kernel
theorem kX3_isTold_23 : zB cX3_isTold 23 26 30 (.if_icmp .ne 7) 7 := by decide +kernel
theorem kX3_isTold_26 : zD cX3_isTold 26 27 (.iconst 1) 1 := by decide +kernel
theorem kX3_isTold_27 : zB cX3_isTold 27 30 31 (.goto 4) 4 := by decide +kernel
theorem kX3_isTold_30 : zD cX3_isTold 30 31 (.iconst 0) 1 := by decide +kernel
theorem kX3_isTold_31 : zD cX3_isTold 31 32 (.ireturn) 1 := by decide +kernel
set_option maxRecDepth 10000 in
theorem wX3_isTold_0 {G : ZG} {d : Nat} {h : ZH} {Q : Option ZV → ZH → Prop} {x1 : Int32} {x2 : Int32} {x3 : Int32} 
  (H : (((x1 >>> (x2 &&& 31)) &&& 1) = 0 → Q (some (zi 0)) h) ∧ (¬ ((x1 >>> (x2 &&& 31)) &&& 1) = 0 → zC G (d + 4) mX3_leftOf [zr 1 0, zi (x1 &&& (((1 : Int32) <<< (x2 &&& 31)) ^^^ (-1)))] h (fun r2 h1 => ∃ y3 : Int32, r2 = some (zi y3) ∧ (¬ (bcI y3) = x3 → Q (some (zi 0)) h1) ∧ ((bcI y3) = x3 → Q (some (zi 1)) h1)))) :
  zT G (d + 5) mX3_isTold 0 [zr 1 0, zi x1, zi x2, zi x3] [] h Q := by
  refine zt_iload_n kX3_isTold_0 rfl ?_
  refine zt_iload_n kX3_isTold_1 rfl ?_
  refine zt_ishr kX3_isTold_2 ?_
  refine zt_iconst (v := 1) kX3_isTold_3 rfl ?_
  refine zt_iand kX3_isTold_4 ?_
  refine zt_if_eq kX3_isTold_5 (fun c => ?_) (fun c => ?_)
  · replace H := H.1 c
    refine zt_iconst (v := 0) kX3_isTold_30 rfl ?_
    exact zt_zret kX3_isTold_31 rfl (by decide) H
  · replace H := H.2 c
    refine zt_aload_n kX3_isTold_8 rfl ?_
    refine zt_iload_n kX3_isTold_9 rfl ?_
    refine zt_iconst (v := 1) kX3_isTold_10 rfl ?_
    refine zt_iload_n kX3_isTold_11 rfl ?_
    refine zt_ishl kX3_isTold_12 ?_
    refine zt_iconst (v := (-1)) kX3_isTold_13 rfl ?_
    refine zt_ixor kX3_isTold_14 ?_
    refine zt_iand kX3_isTold_15 ?_
    refine zt_cV (as := [zi (x1 &&& (((1 : Int32) <<< (x2 &&& 31)) ^^^ (-1)))]) kX3_isTold_16 sRX3_52 rfl (by decide) rfl (by simp) rfl H (fun r2 h1 H => ?_)
    obtain ⟨y3, rfl, H⟩ := H
    refine zt_cS (as := [zi y3]) kX3_isTold_19 sRX3_56 rfl (by simp) rfl (sJ6_bitCount_0f7a4 _  ) (fun r h0 hq => ?_)
    obtain ⟨rfl, hh⟩ := hq
    replace hh := hh.symm
    subst hh
    refine zt_iload_n kX3_isTold_22 rfl ?_
    refine zt_icmp_ne kX3_isTold_23 (fun c => ?_) (fun c => ?_)
    · replace H := H.1 c
      refine zt_iconst (v := 0) kX3_isTold_30 rfl ?_
      exact zt_zret kX3_isTold_31 rfl (by decide) H
    · replace H := H.2 c
      refine zt_iconst (v := 1) kX3_isTold_26 rfl ?_
      refine zt_goto kX3_isTold_27 ?_
      exact zt_zret kX3_isTold_31 rfl (by decide) H

theorem kX11_forged_0 : zD cX11_forged 0 1 (.aload_n 0) 1 := by decide +kernel
theorem kX11_forged_1 : zD cX11_forged 1 2 (.iload_n 1) 1 := by decide +kernel
theorem kX11_forged_2 : zD cX11_forged 2 5 (.invokevirtual 229) 3 := by decide +kernel
theorem kX11_forged_5 : zD cX11_forged 5 6 (.istore_n 2) 1 := by decide +kernel
theorem kX11_forged_6 : zD cX11_forged 6 7 (.iload_n 2) 1 := by decide +kernel
theorem kX11_forged_7 : zB cX11_forged 7 10 14 (.ifCond .eq 7) 7 := by decide +kernel
theorem kX11_forged_10 : zD cX11_forged 10 11 (.iload_n 2) 1 := by decide +kernel
theorem kX11_forged_11 : zB cX11_forged 11 14 27 (.goto 16) 16 := by decide +kernel
theorem kX11_forged_14 : zD cX11_forged 14 15 (.aload_n 0) 1 := by decide +kernel
theorem kX11_forged_15 : zD cX11_forged 15 18 (.getfield 40) 3 := by decide +kernel
theorem kX11_forged_18 : zD cX11_forged 18 19 (.aload_n 0) 1 := by decide +kernel
theorem kX11_forged_19 : zD cX11_forged 19 22 (.getfield 62) 3 := by decide +kernel
theorem kX11_forged_22 : zD cX11_forged 22 23 (.iload_n 1) 1 := by decide +kernel
theorem kX11_forged_23 : zD cX11_forged 23 24 (.aaload) 1 := by decide +kernel
theorem kX11_forged_24 : zD cX11_forged 24 27 (.invokevirtual 238) 3 := by decide +kernel
theorem kX11_forged_27 : zD cX11_forged 27 28 (.ireturn) 1 := by decide +kernel
set_option maxRecDepth 10000 in
theorem wX11_forged_0 {G : ZG} {d : Nat} {h : ZH} {Q : Option ZV → ZH → Prop} {x1 : Int32} 
  (H : zC G (d + 7) mX11_tinsRefused [zr 0 0, zi x1] h (fun r2 h1 => ∃ y3 : Int32, r2 = some (zi y3) ∧ (y3 = 0 → vp_in x1 8 ∧ zC G (d + 7) mX3_firstForged [zr 1 0, zr 3 (x1.toNatClampNeg)] h1 (fun r6 h5 => ∃ y7 : Int32, r6 = some (zi y7) ∧ Q (some (zi y7)) h5)) ∧ (¬ y3 = 0 → Q (some (zi y3)) h1))) :
  zT G (d + 8) mX11_forged 0 [zr 0 0, zi x1, zu] [] h Q := by
  refine zt_aload_n kX11_forged_0 rfl ?_
  refine zt_iload_n kX11_forged_1 rfl ?_
  refine zt_cV (as := [zi x1]) kX11_forged_2 sRX11_229 rfl (by decide) rfl (by simp) rfl H (fun r2 h1 H => ?_)
  obtain ⟨y3, rfl, H⟩ := H
  refine zt_istore_n (L' := [zr 0 0, zi x1, zi y3]) kX11_forged_5 (by decide) rfl ?_
  refine zt_iload_n kX11_forged_6 rfl ?_
  refine zt_if_eq kX11_forged_7 (fun c => ?_) (fun c => ?_)
  · replace H := H.1 c
    refine zt_aload_n kX11_forged_14 rfl ?_
    refine zt_get (v := zr 1 0) kX11_forged_15 fRX11_40 rfl (by decide) rfl ?_
    refine zt_aload_n kX11_forged_18 rfl ?_
    refine zt_get (v := zr 22 0) kX11_forged_19 fRX11_62 rfl (by decide) rfl ?_
    refine zt_iload_n kX11_forged_22 rfl ?_
    obtain ⟨hv4, H⟩ := H
    refine zt_aaldH kX11_forged_23 hv4 ?_
    refine zt_cV (as := [zr 3 (x1.toNatClampNeg)]) kX11_forged_24 sRX11_238 rfl (by decide) rfl (by simp) rfl H (fun r6 h5 H => ?_)
    obtain ⟨y7, rfl, H⟩ := H
    exact zt_iret kX11_forged_27 rfl H
  · replace H := H.2 c
    refine zt_iload_n kX11_forged_10 rfl ?_
    refine zt_goto kX11_forged_11 ?_
    exact zt_iret kX11_forged_27 rfl H

theorem kX3_firstForged_0 : zD cX3_firstForged 0 1 (.aload_n 0) 1 := by decide +kernel
theorem kX3_firstForged_1 : zD cX3_firstForged 1 2 (.aload_n 0) 1 := by decide +kernel
theorem kX3_firstForged_2 : zD cX3_firstForged 2 5 (.getfield 12) 3 := by decide +kernel
theorem kX3_firstForged_5 : zD cX3_firstForged 5 8 (.getfield 49) 3 := by decide +kernel
theorem kX3_firstForged_8 : zD cX3_firstForged 8 9 (.aload_n 1) 1 := by decide +kernel
theorem kX3_firstForged_9 : zD cX3_firstForged 9 10 (.iconst 0) 1 := by decide +kernel
theorem kX3_firstForged_10 : zD cX3_firstForged 10 13 (.invokevirtual 145) 3 := by decide +kernel
theorem kX3_firstForged_13 : zD cX3_firstForged 13 14 (.istore_n 2) 1 := by decide +kernel
theorem kX3_firstForged_14 : zD cX3_firstForged 14 15 (.iload_n 2) 1 := by decide +kernel
theorem kX3_firstForged_15 : zD cX3_firstForged 15 16 (.aload_n 1) 1 := by decide +kernel
theorem kX3_firstForged_16 : zD cX3_firstForged 16 19 (.getfield 103) 3 := by decide +kernel
theorem kX3_firstForged_19 : zB cX3_firstForged 19 22 27 (.if_icmp .ne 8) 8 := by decide +kernel
theorem kX3_firstForged_22 : zD cX3_firstForged 22 24 (.bipush (-4)) 2 := by decide +kernel
theorem kX3_firstForged_24 : zB cX3_firstForged 24 27 28 (.goto 4) 4 := by decide +kernel
theorem kX3_firstForged_27 : zD cX3_firstForged 27 28 (.iload_n 2) 1 := by decide +kernel
theorem kX3_firstForged_28 : zD cX3_firstForged 28 29 (.ireturn) 1 := by decide +kernel
set_option maxRecDepth 10000 in
theorem wX3_firstForged_0 {G : ZG} {d : Nat} {h : ZH} {Q : Option ZV → ZH → Prop} {i1 : Nat} (hi1 : i1 < zcnt 3)
  (H : zC G (d + 6) mX3_believedFrom [zr 1 0, zi (h.1 2 0 6), zr 3 i1, zi 0] h (fun r2 h1 => ∃ y3 : Int32, r2 = some (zi y3) ∧ (¬ y3 = (h1.1 3 i1 4) → Q (some (zi y3)) h1) ∧ (y3 = (h1.1 3 i1 4) → Q (some (zi (-4))) h1))) :
  zT G (d + 7) mX3_firstForged 0 [zr 1 0, zr 3 i1, zu] [] h Q := by
  refine zt_aload_n kX3_firstForged_0 rfl ?_
  refine zt_aload_n kX3_firstForged_1 rfl ?_
  refine zt_get (v := zr 2 0) kX3_firstForged_2 fRX3_12 rfl (by decide) rfl ?_
  refine zt_get (v := zi (h.1 2 0 6)) kX3_firstForged_5 fRX3_49 rfl (by decide) rfl ?_
  refine zt_aload_n kX3_firstForged_8 rfl ?_
  refine zt_iconst (v := 0) kX3_firstForged_9 rfl ?_
  refine zt_cV (as := [zi (h.1 2 0 6), zr 3 i1, zi 0]) kX3_firstForged_10 sRX3_145 rfl (by decide) rfl (by simp) rfl H (fun r2 h1 H => ?_)
  obtain ⟨y3, rfl, H⟩ := H
  refine zt_istore_n (L' := [zr 1 0, zr 3 i1, zi y3]) kX3_firstForged_13 (by decide) rfl ?_
  refine zt_iload_n kX3_firstForged_14 rfl ?_
  refine zt_aload_n kX3_firstForged_15 rfl ?_
  refine zt_get (v := zi (h1.1 3 i1 4)) kX3_firstForged_16 fRX3_103 rfl hi1 rfl ?_
  refine zt_icmp_ne kX3_firstForged_19 (fun c => ?_) (fun c => ?_)
  · replace H := H.1 c
    refine zt_iload_n kX3_firstForged_27 rfl ?_
    exact zt_iret kX3_firstForged_28 rfl H
  · replace H := H.2 c
    refine zt_bipush (v := (-4)) kX3_firstForged_22 rfl ?_
    refine zt_goto kX3_firstForged_24 ?_
    exact zt_iret kX3_firstForged_28 rfl H

theorem kX3_believedFrom_0 : zD cX3_believedFrom 0 1 (.iload_n 3) 1 := by decide +kernel
theorem kX3_believedFrom_1 : zD cX3_believedFrom 1 2 (.aload_n 2) 1 := by decide +kernel
theorem kX3_believedFrom_2 : zD cX3_believedFrom 2 5 (.getfield 103) 3 := by decide +kernel
theorem kX3_believedFrom_5 : zB cX3_believedFrom 5 8 13 (.if_icmp .ge 8) 8 := by decide +kernel
theorem kX3_believedFrom_8 : zD cX3_believedFrom 8 9 (.iload_n 3) 1 := by decide +kernel
theorem kX3_believedFrom_9 : zD cX3_believedFrom 9 10 (.iconst 4) 1 := by decide +kernel
theorem kX3_believedFrom_10 : zB cX3_believedFrom 10 13 15 (.if_icmp .lt 5) 5 := by decide +kernel
theorem kX3_believedFrom_13 : zD cX3_believedFrom 13 14 (.iload_n 3) 1 := by decide +kernel
theorem kX3_believedFrom_14 : zD cX3_believedFrom 14 15 (.ireturn) 1 := by decide +kernel
theorem kX3_believedFrom_15 : zD cX3_believedFrom 15 16 (.iload_n 3) 1 := by decide +kernel
theorem kX3_believedFrom_16 : zD cX3_believedFrom 16 18 (.istore 4) 2 := by decide +kernel
theorem kX3_believedFrom_18 : zD cX3_believedFrom 18 19 (.iconst 0) 1 := by decide +kernel
theorem kX3_believedFrom_19 : zD cX3_believedFrom 19 21 (.istore 5) 2 := by decide +kernel
theorem kX3_believedFrom_21 : zD cX3_believedFrom 21 23 (.iload 5) 2 := by decide +kernel
theorem kX3_believedFrom_23 : zD cX3_believedFrom 23 25 (.bipush 12) 2 := by decide +kernel
theorem kX3_believedFrom_25 : zB cX3_believedFrom 25 28 79 (.if_icmp .ge 54) 54 := by decide +kernel
theorem kX3_believedFrom_28 : zD cX3_believedFrom 28 29 (.aload_n 0) 1 := by decide +kernel
theorem kX3_believedFrom_29 : zD cX3_believedFrom 29 30 (.iload_n 1) 1 := by decide +kernel
theorem kX3_believedFrom_30 : zD cX3_believedFrom 30 32 (.iload 5) 2 := by decide +kernel
theorem kX3_believedFrom_32 : zD cX3_believedFrom 32 33 (.aload_n 2) 1 := by decide +kernel
theorem kX3_believedFrom_33 : zD cX3_believedFrom 33 34 (.iload_n 3) 1 := by decide +kernel
theorem kX3_believedFrom_34 : zD cX3_believedFrom 34 37 (.invokevirtual 108) 3 := by decide +kernel
theorem kX3_believedFrom_37 : zD cX3_believedFrom 37 40 (.invokevirtual 141) 3 := by decide +kernel
theorem kX3_believedFrom_40 : zB cX3_believedFrom 40 43 46 (.ifCond .ne 6) 6 := by decide +kernel
theorem kX3_believedFrom_43 : zB cX3_believedFrom 43 46 73 (.goto 30) 30 := by decide +kernel
theorem kX3_believedFrom_46 : zD cX3_believedFrom 46 48 (.iload 4) 2 := by decide +kernel
theorem kX3_believedFrom_48 : zD cX3_believedFrom 48 49 (.aload_n 0) 1 := by decide +kernel
theorem kX3_believedFrom_49 : zD cX3_believedFrom 49 50 (.aload_n 0) 1 := by decide +kernel
theorem kX3_believedFrom_50 : zD cX3_believedFrom 50 51 (.iload_n 1) 1 := by decide +kernel
theorem kX3_believedFrom_51 : zD cX3_believedFrom 51 52 (.iconst 1) 1 := by decide +kernel
theorem kX3_believedFrom_52 : zD cX3_believedFrom 52 54 (.iload 5) 2 := by decide +kernel
theorem kX3_believedFrom_54 : zD cX3_believedFrom 54 55 (.ishl) 1 := by decide +kernel
theorem kX3_believedFrom_55 : zD cX3_believedFrom 55 56 (.iconst (-1)) 1 := by decide +kernel
theorem kX3_believedFrom_56 : zD cX3_believedFrom 56 57 (.ixor) 1 := by decide +kernel
theorem kX3_believedFrom_57 : zD cX3_believedFrom 57 58 (.iand) 1 := by decide +kernel
theorem kX3_believedFrom_58 : zD cX3_believedFrom 58 61 (.invokevirtual 52) 3 := by decide +kernel
theorem kX3_believedFrom_61 : zD cX3_believedFrom 61 62 (.aload_n 2) 1 := by decide +kernel
theorem kX3_believedFrom_62 : zD cX3_believedFrom 62 63 (.iload_n 3) 1 := by decide +kernel
theorem kX3_believedFrom_63 : zD cX3_believedFrom 63 64 (.iconst 1) 1 := by decide +kernel
theorem kX3_believedFrom_64 : zD cX3_believedFrom 64 65 (.iadd) 1 := by decide +kernel
theorem kX3_believedFrom_65 : zD cX3_believedFrom 65 68 (.invokevirtual 145) 3 := by decide +kernel
theorem kX3_believedFrom_68 : zD cX3_believedFrom 68 71 (.invokestatic 83) 3 := by decide +kernel
theorem kX3_believedFrom_71 : zD cX3_believedFrom 71 73 (.istore 4) 2 := by decide +kernel
theorem kX3_believedFrom_73 : zD cX3_believedFrom 73 76 (.iinc 5 1) 3 := by decide +kernel
theorem kX3_believedFrom_76 : zB cX3_believedFrom 76 79 21 (.goto (-55)) (-55) := by decide +kernel
theorem kX3_believedFrom_79 : zD cX3_believedFrom 79 81 (.iload 4) 2 := by decide +kernel
theorem kX3_believedFrom_81 : zD cX3_believedFrom 81 82 (.ireturn) 1 := by decide +kernel
set_option maxRecDepth 10000 in
theorem wX3_believedFrom_0 {G : ZG} {d : Nat} {h : ZH} {Q : Option ZV → ZH → Prop} {x1 : Int32} {i2 : Nat} {x3 : Int32} (hi2 : i2 < zcnt 3)
  (H : ((h.1 3 i2 4) ≤ x3 → Q (some (zi x3)) h) ∧ (¬ (h.1 3 i2 4) ≤ x3 → (x3 < 4 → zT G (d + 6) mX3_believedFrom 21 [zr 1 0, zi x1, zr 3 i2, zi x3, zi x3, zi 0] [] h Q) ∧ (¬ x3 < 4 → Q (some (zi x3)) h))) :
  zT G (d + 6) mX3_believedFrom 0 [zr 1 0, zi x1, zr 3 i2, zi x3, zu, zu] [] h Q := by
  refine zt_iload_n kX3_believedFrom_0 rfl ?_
  refine zt_aload_n kX3_believedFrom_1 rfl ?_
  refine zt_get (v := zi (h.1 3 i2 4)) kX3_believedFrom_2 fRX3_103 rfl hi2 rfl ?_
  refine zt_icmp_ge kX3_believedFrom_5 (fun c => ?_) (fun c => ?_)
  · replace H := H.1 c
    refine zt_iload_n kX3_believedFrom_13 rfl ?_
    exact zt_iret kX3_believedFrom_14 rfl H
  · replace H := H.2 c
    refine zt_iload_n kX3_believedFrom_8 rfl ?_
    refine zt_iconst (v := 4) kX3_believedFrom_9 rfl ?_
    refine zt_icmp_lt kX3_believedFrom_10 (fun c => ?_) (fun c => ?_)
    · replace H := H.1 c
      refine zt_iload_n kX3_believedFrom_15 rfl ?_
      refine zt_istore (L' := [zr 1 0, zi x1, zr 3 i2, zi x3, zi x3, zu]) kX3_believedFrom_16 (by decide) rfl ?_
      refine zt_iconst (v := 0) kX3_believedFrom_18 rfl ?_
      refine zt_istore (L' := [zr 1 0, zi x1, zr 3 i2, zi x3, zi x3, zi 0]) kX3_believedFrom_19 (by decide) rfl ?_
      exact H
    · replace H := H.2 c
      refine zt_iload_n kX3_believedFrom_13 rfl ?_
      exact zt_iret kX3_believedFrom_14 rfl H

set_option maxRecDepth 10000 in
theorem wX3_believedFrom_21 {G : ZG} {d : Nat} {h : ZH} {Q : Option ZV → ZH → Prop} {x1 : Int32} {i2 : Nat} {x3 : Int32} {x4 : Int32} {x5 : Int32} (hi2 : i2 < zcnt 3)
  (H : (12 ≤ x5 → Q (some (zi x4)) h) ∧ (¬ 12 ≤ x5 → h.1 3 i2 4 ≤ 100 ∧ (zC G (d + 5) mX3_isTold [zr 1 0, zi x1, zi x5, zi (shAt h i2 x3)] h (fun r2 h1 => ∃ y3 : Int32, r2 = some (zi y3) ∧ (¬ y3 = 0 → zC G (d + 5) mX3_leftOf [zr 1 0, zi (x1 &&& (((1 : Int32) <<< (x5 &&& 31)) ^^^ (-1)))] h1 (fun r5 h4 => ∃ y6 : Int32, r5 = some (zi y6) ∧ zC G (d + 5) mX3_believedFrom [zr 1 0, zi y6, zr 3 i2, zi (x3 + 1)] h4 (fun r8 h7 => ∃ y9 : Int32, r8 = some (zi y9) ∧ zT G (d + 6) mX3_believedFrom 21 [zr 1 0, zi x1, zr 3 i2, zi x3, zi (zmx x4 y9), zi (x5 + 1)] [] h7 Q))) ∧ (y3 = 0 → zT G (d + 6) mX3_believedFrom 21 [zr 1 0, zi x1, zr 3 i2, zi x3, zi x4, zi (x5 + 1)] [] h1 Q))))) :
  zT G (d + 6) mX3_believedFrom 21 [zr 1 0, zi x1, zr 3 i2, zi x3, zi x4, zi x5] [] h Q := by
  refine zt_iload kX3_believedFrom_21 rfl ?_
  refine zt_bipush (v := 12) kX3_believedFrom_23 rfl ?_
  refine zt_icmp_ge kX3_believedFrom_25 (fun c => ?_) (fun c => ?_)
  · replace H := H.1 c
    refine zt_iload kX3_believedFrom_79 rfl ?_
    exact zt_iret kX3_believedFrom_81 rfl H
  · replace H := H.2 c
    refine zt_aload_n kX3_believedFrom_28 rfl ?_
    refine zt_iload_n kX3_believedFrom_29 rfl ?_
    refine zt_iload kX3_believedFrom_30 rfl ?_
    refine zt_aload_n kX3_believedFrom_32 rfl ?_
    refine zt_iload_n kX3_believedFrom_33 rfl ?_
    obtain ⟨pp0, H⟩ := H
    refine zt_cV (as := [zi x3]) kX3_believedFrom_34 sRX3_108 rfl hi2 rfl (by simp) rfl (sX8_at _ hi2 pp0) (fun r h0 hq => ?_)
    obtain ⟨rfl, hh⟩ := hq
    replace hh := hh.symm
    subst hh
    refine zt_cV (as := [zi x1, zi x5, zi (shAt h i2 x3)]) kX3_believedFrom_37 sRX3_141 rfl (by decide) rfl (by simp) rfl H (fun r2 h1 H => ?_)
    obtain ⟨y3, rfl, H⟩ := H
    refine zt_if_ne kX3_believedFrom_40 (fun c => ?_) (fun c => ?_)
    · replace H := H.1 c
      refine zt_iload kX3_believedFrom_46 rfl ?_
      refine zt_aload_n kX3_believedFrom_48 rfl ?_
      refine zt_aload_n kX3_believedFrom_49 rfl ?_
      refine zt_iload_n kX3_believedFrom_50 rfl ?_
      refine zt_iconst (v := 1) kX3_believedFrom_51 rfl ?_
      refine zt_iload kX3_believedFrom_52 rfl ?_
      refine zt_ishl kX3_believedFrom_54 ?_
      refine zt_iconst (v := (-1)) kX3_believedFrom_55 rfl ?_
      refine zt_ixor kX3_believedFrom_56 ?_
      refine zt_iand kX3_believedFrom_57 ?_
      refine zt_cV (as := [zi (x1 &&& (((1 : Int32) <<< (x5 &&& 31)) ^^^ (-1)))]) kX3_believedFrom_58 sRX3_52 rfl (by decide) rfl (by simp) rfl H (fun r5 h4 H => ?_)
      obtain ⟨y6, rfl, H⟩ := H
      refine zt_aload_n kX3_believedFrom_61 rfl ?_
      refine zt_iload_n kX3_believedFrom_62 rfl ?_
      refine zt_iconst (v := 1) kX3_believedFrom_63 rfl ?_
      refine zt_iadd kX3_believedFrom_64 ?_
      refine zt_cV (as := [zi y6, zr 3 i2, zi (x3 + 1)]) kX3_believedFrom_65 sRX3_145 rfl (by decide) rfl (by simp) rfl H (fun r8 h7 H => ?_)
      obtain ⟨y9, rfl, H⟩ := H
      refine zt_mmax kX3_believedFrom_68 qRX3_83 (by simp) ?_
      refine zt_istore (L' := [zr 1 0, zi x1, zr 3 i2, zi x3, zi (zmx x4 y9), zi x5]) kX3_believedFrom_71 (by decide) rfl ?_
      refine zt_iinc (v := (x5 + 1)) (L' := [zr 1 0, zi x1, zr 3 i2, zi x3, zi (zmx x4 y9), zi (x5 + 1)]) kX3_believedFrom_73 rfl rfl (by decide) rfl ?_
      refine zt_goto kX3_believedFrom_76 ?_
      exact H
    · replace H := H.2 c
      refine zt_goto kX3_believedFrom_43 ?_
      refine zt_iinc (v := (x5 + 1)) (L' := [zr 1 0, zi x1, zr 3 i2, zi x3, zi x4, zi (x5 + 1)]) kX3_believedFrom_73 rfl rfl (by decide) rfl ?_
      refine zt_goto kX3_believedFrom_76 ?_
      exact H

theorem kX11_which_0 : zD cX11_which 0 1 (.iload_n 2) 1 := by decide +kernel
theorem kX11_which_1 : zD cX11_which 1 4 (.invokestatic 150) 3 := by decide +kernel
theorem kX11_which_4 : zB cX11_which 4 7 9 (.ifCond .ne 5) 5 := by decide +kernel
theorem kX11_which_7 : zD cX11_which 7 8 (.iconst (-1)) 1 := by decide +kernel
theorem kX11_which_8 : zD cX11_which 8 9 (.ireturn) 1 := by decide +kernel
theorem kX11_which_9 : zD cX11_which 9 10 (.aload_n 0) 1 := by decide +kernel
theorem kX11_which_10 : zD cX11_which 10 11 (.iload_n 1) 1 := by decide +kernel
theorem kX11_which_11 : zD cX11_which 11 14 (.invokevirtual 201) 3 := by decide +kernel
theorem kX11_which_14 : zD cX11_which 14 15 (.istore_n 3) 1 := by decide +kernel
theorem kX11_which_15 : zD cX11_which 15 16 (.iload_n 3) 1 := by decide +kernel
theorem kX11_which_16 : zB cX11_which 16 19 21 (.ifCond .eq 5) 5 := by decide +kernel
theorem kX11_which_19 : zD cX11_which 19 20 (.iload_n 3) 1 := by decide +kernel
theorem kX11_which_20 : zD cX11_which 20 21 (.ireturn) 1 := by decide +kernel
theorem kX11_which_21 : zD cX11_which 21 22 (.aload_n 0) 1 := by decide +kernel
theorem kX11_which_22 : zD cX11_which 22 25 (.getfield 40) 3 := by decide +kernel
theorem kX11_which_25 : zD cX11_which 25 26 (.aload_n 0) 1 := by decide +kernel
theorem kX11_which_26 : zD cX11_which 26 29 (.getfield 62) 3 := by decide +kernel
theorem kX11_which_29 : zD cX11_which 29 30 (.iload_n 1) 1 := by decide +kernel
theorem kX11_which_30 : zD cX11_which 30 31 (.aaload) 1 := by decide +kernel
theorem kX11_which_31 : zD cX11_which 31 34 (.invokevirtual 204) 3 := by decide +kernel
theorem kX11_which_34 : zD cX11_which 34 36 (.istore 4) 2 := by decide +kernel
theorem kX11_which_36 : zD cX11_which 36 37 (.iload_n 2) 1 := by decide +kernel
theorem kX11_which_37 : zB cX11_which 37 40 45 (.ifCond .ne 8) 8 := by decide +kernel
theorem kX11_which_40 : zD cX11_which 40 42 (.iload 4) 2 := by decide +kernel
theorem kX11_which_42 : zB cX11_which 42 45 50 (.goto 8) 8 := by decide +kernel
theorem kX11_which_45 : zD cX11_which 45 47 (.iload 4) 2 := by decide +kernel
theorem kX11_which_47 : zD cX11_which 47 50 (.invokestatic 145) 3 := by decide +kernel
theorem kX11_which_50 : zD cX11_which 50 51 (.ireturn) 1 := by decide +kernel
set_option maxRecDepth 10000 in
theorem wX11_which_0 {G : ZG} {d : Nat} {h : ZH} {Q : Option ZV → ZH → Prop} {x1 : Int32} {x2 : Int32} 
  (H : ((0 ≤ x2 ∧ x2 ≤ 1) → zC G (d + 5) mX11_notesRefused [zr 0 0, zi x1] h (fun r2 h1 => ∃ y3 : Int32, r2 = some (zi y3) ∧ (y3 = 0 → vp_in x1 8 ∧ zC G (d + 5) mX3_suspectsBy [zr 1 0, zr 3 (x1.toNatClampNeg)] h1 (fun r6 h5 => ∃ y7 : Int32, r6 = some (zi y7) ∧ (¬ x2 = 0 → Q (some (zi (bcI y7))) h5) ∧ (x2 = 0 → Q (some (zi y7)) h5))) ∧ (¬ y3 = 0 → Q (some (zi y3)) h1))) ∧ (¬ (0 ≤ x2 ∧ x2 ≤ 1) → Q (some (zi (-1))) h)) :
  zT G (d + 6) mX11_which 0 [zr 0 0, zi x1, zi x2, zu, zu] [] h Q := by
  refine zt_iload_n kX11_which_0 rfl ?_
  refine zt_cS (as := [zi x2]) kX11_which_1 sRX11_150 rfl (by simp) rfl (sX11_isEither _  ) (fun r h0 hq => ?_)
  obtain ⟨rfl, hh⟩ := hq
  replace hh := hh.symm
  subst hh
  refine zt_ifb_ne kX11_which_4 (fun c => ?_) (fun c => ?_)
  · replace H := H.1 c
    refine zt_aload_n kX11_which_9 rfl ?_
    refine zt_iload_n kX11_which_10 rfl ?_
    refine zt_cV (as := [zi x1]) kX11_which_11 sRX11_201 rfl (by decide) rfl (by simp) rfl H (fun r2 h1 H => ?_)
    obtain ⟨y3, rfl, H⟩ := H
    refine zt_istore_n (L' := [zr 0 0, zi x1, zi x2, zi y3, zu]) kX11_which_14 (by decide) rfl ?_
    refine zt_iload_n kX11_which_15 rfl ?_
    refine zt_if_eq kX11_which_16 (fun c => ?_) (fun c => ?_)
    · replace H := H.1 c
      refine zt_aload_n kX11_which_21 rfl ?_
      refine zt_get (v := zr 1 0) kX11_which_22 fRX11_40 rfl (by decide) rfl ?_
      refine zt_aload_n kX11_which_25 rfl ?_
      refine zt_get (v := zr 22 0) kX11_which_26 fRX11_62 rfl (by decide) rfl ?_
      refine zt_iload_n kX11_which_29 rfl ?_
      obtain ⟨hv4, H⟩ := H
      refine zt_aaldH kX11_which_30 hv4 ?_
      refine zt_cV (as := [zr 3 (x1.toNatClampNeg)]) kX11_which_31 sRX11_204 rfl (by decide) rfl (by simp) rfl H (fun r6 h5 H => ?_)
      obtain ⟨y7, rfl, H⟩ := H
      refine zt_istore (L' := [zr 0 0, zi x1, zi x2, zi y3, zi y7]) kX11_which_34 (by decide) rfl ?_
      refine zt_iload_n kX11_which_36 rfl ?_
      refine zt_if_ne kX11_which_37 (fun c => ?_) (fun c => ?_)
      · replace H := H.1 c
        refine zt_iload kX11_which_45 rfl ?_
        refine zt_cS (as := [zi y7]) kX11_which_47 sRX11_145 rfl (by simp) rfl (sJ6_bitCount_0f7a4 _  ) (fun r h0 hq => ?_)
        obtain ⟨rfl, hh⟩ := hq
        replace hh := hh.symm
        subst hh
        exact zt_iret kX11_which_50 rfl H
      · replace H := H.2 c
        refine zt_iload kX11_which_40 rfl ?_
        refine zt_goto kX11_which_42 ?_
        exact zt_iret kX11_which_50 rfl H
    · replace H := H.2 c
      refine zt_iload_n kX11_which_19 rfl ?_
      exact zt_iret kX11_which_20 rfl H
  · replace H := H.2 c
    refine zt_iconst (v := (-1)) kX11_which_7 rfl ?_
    exact zt_iret kX11_which_8 rfl H

theorem kX11_notesRefused_0 : zD cX11_notesRefused 0 1 (.aload_n 0) 1 := by decide +kernel
theorem kX11_notesRefused_1 : zD cX11_notesRefused 1 2 (.iload_n 1) 1 := by decide +kernel
theorem kX11_notesRefused_2 : zD cX11_notesRefused 2 5 (.invokevirtual 71) 3 := by decide +kernel
theorem kX11_notesRefused_5 : zD cX11_notesRefused 5 6 (.istore_n 2) 1 := by decide +kernel
theorem kX11_notesRefused_6 : zD cX11_notesRefused 6 7 (.iload_n 2) 1 := by decide +kernel
theorem kX11_notesRefused_7 : zB cX11_notesRefused 7 10 12 (.ifCond .eq 5) 5 := by decide +kernel
theorem kX11_notesRefused_10 : zD cX11_notesRefused 10 11 (.iload_n 2) 1 := by decide +kernel
theorem kX11_notesRefused_11 : zD cX11_notesRefused 11 12 (.ireturn) 1 := by decide +kernel
theorem kX11_notesRefused_12 : zD cX11_notesRefused 12 13 (.aload_n 0) 1 := by decide +kernel
theorem kX11_notesRefused_13 : zD cX11_notesRefused 13 16 (.getfield 62) 3 := by decide +kernel
theorem kX11_notesRefused_16 : zD cX11_notesRefused 16 17 (.iload_n 1) 1 := by decide +kernel
theorem kX11_notesRefused_17 : zD cX11_notesRefused 17 18 (.aaload) 1 := by decide +kernel
theorem kX11_notesRefused_18 : zD cX11_notesRefused 18 19 (.astore_n 3) 1 := by decide +kernel
theorem kX11_notesRefused_19 : zD cX11_notesRefused 19 20 (.aload_n 3) 1 := by decide +kernel
theorem kX11_notesRefused_20 : zD cX11_notesRefused 20 23 (.getfield 241) 3 := by decide +kernel
theorem kX11_notesRefused_23 : zD cX11_notesRefused 23 24 (.iconst 2) 1 := by decide +kernel
theorem kX11_notesRefused_24 : zD cX11_notesRefused 24 25 (.irem) 1 := by decide +kernel
theorem kX11_notesRefused_25 : zB cX11_notesRefused 25 28 31 (.ifCond .eq 6) 6 := by decide +kernel
theorem kX11_notesRefused_28 : zD cX11_notesRefused 28 30 (.bipush (-13)) 2 := by decide +kernel
theorem kX11_notesRefused_30 : zD cX11_notesRefused 30 31 (.ireturn) 1 := by decide +kernel
theorem kX11_notesRefused_31 : zD cX11_notesRefused 31 32 (.iconst 0) 1 := by decide +kernel
theorem kX11_notesRefused_32 : zD cX11_notesRefused 32 34 (.istore 4) 2 := by decide +kernel
theorem kX11_notesRefused_34 : zD cX11_notesRefused 34 36 (.iload 4) 2 := by decide +kernel
theorem kX11_notesRefused_36 : zD cX11_notesRefused 36 37 (.aload_n 3) 1 := by decide +kernel
theorem kX11_notesRefused_37 : zD cX11_notesRefused 37 40 (.getfield 241) 3 := by decide +kernel
theorem kX11_notesRefused_40 : zB cX11_notesRefused 40 43 86 (.if_icmp .ge 46) 46 := by decide +kernel
theorem kX11_notesRefused_43 : zD cX11_notesRefused 43 44 (.aload_n 3) 1 := by decide +kernel
theorem kX11_notesRefused_44 : zD cX11_notesRefused 44 46 (.iload 4) 2 := by decide +kernel
theorem kX11_notesRefused_46 : zD cX11_notesRefused 46 47 (.iconst 1) 1 := by decide +kernel
theorem kX11_notesRefused_47 : zD cX11_notesRefused 47 48 (.iadd) 1 := by decide +kernel
theorem kX11_notesRefused_48 : zD cX11_notesRefused 48 51 (.invokevirtual 244) 3 := by decide +kernel
theorem kX11_notesRefused_51 : zD cX11_notesRefused 51 53 (.istore 5) 2 := by decide +kernel
theorem kX11_notesRefused_53 : zD cX11_notesRefused 53 54 (.aload_n 3) 1 := by decide +kernel
theorem kX11_notesRefused_54 : zD cX11_notesRefused 54 56 (.iload 4) 2 := by decide +kernel
theorem kX11_notesRefused_56 : zD cX11_notesRefused 56 59 (.invokevirtual 244) 3 := by decide +kernel
theorem kX11_notesRefused_59 : zD cX11_notesRefused 59 62 (.invokestatic 86) 3 := by decide +kernel
theorem kX11_notesRefused_62 : zB cX11_notesRefused 62 65 77 (.ifCond .eq 15) 15 := by decide +kernel
theorem kX11_notesRefused_65 : zD cX11_notesRefused 65 67 (.iload 5) 2 := by decide +kernel
theorem kX11_notesRefused_67 : zB cX11_notesRefused 67 70 77 (.ifCond .lt 10) 10 := by decide +kernel
theorem kX11_notesRefused_70 : zD cX11_notesRefused 70 72 (.iload 5) 2 := by decide +kernel
theorem kX11_notesRefused_72 : zD cX11_notesRefused 72 74 (.bipush 50) 2 := by decide +kernel
theorem kX11_notesRefused_74 : zB cX11_notesRefused 74 77 80 (.if_icmp .le 6) 6 := by decide +kernel
theorem kX11_notesRefused_77 : zD cX11_notesRefused 77 79 (.bipush (-13)) 2 := by decide +kernel
theorem kX11_notesRefused_79 : zD cX11_notesRefused 79 80 (.ireturn) 1 := by decide +kernel
theorem kX11_notesRefused_80 : zD cX11_notesRefused 80 83 (.iinc 4 2) 3 := by decide +kernel
theorem kX11_notesRefused_83 : zB cX11_notesRefused 83 86 34 (.goto (-49)) (-49) := by decide +kernel
theorem kX11_notesRefused_86 : zD cX11_notesRefused 86 87 (.iconst 0) 1 := by decide +kernel
theorem kX11_notesRefused_87 : zD cX11_notesRefused 87 88 (.ireturn) 1 := by decide +kernel
set_option maxRecDepth 10000 in
theorem wX11_notesRefused_0 {G : ZG} {d : Nat} {h : ZH} {Q : Option ZV → ZH → Prop} {x1 : Int32} 
  (H : ((rowRefI h x1) = 0 → vp_in x1 8 ∧ (((h.1 3 (x1.toNatClampNeg) 4) - (h.1 3 (x1.toNatClampNeg) 4) / 2 * 2) = 0 → zT G (d + 3) mX11_notesRefused 34 [zr 0 0, zi x1, zi (rowRefI h x1), zr 3 (x1.toNatClampNeg), zi 0, zu] [] h Q) ∧ (¬ ((h.1 3 (x1.toNatClampNeg) 4) - (h.1 3 (x1.toNatClampNeg) 4) / 2 * 2) = 0 → Q (some (zi (-13))) h)) ∧ (¬ (rowRefI h x1) = 0 → Q (some (zi (rowRefI h x1))) h)) :
  zT G (d + 3) mX11_notesRefused 0 [zr 0 0, zi x1, zu, zu, zu, zu] [] h Q := by
  refine zt_aload_n kX11_notesRefused_0 rfl ?_
  refine zt_iload_n kX11_notesRefused_1 rfl ?_
  refine zt_cV (as := [zi x1]) kX11_notesRefused_2 sRX11_71 rfl (by decide) rfl (by simp) rfl (sX11_rowRefused _  ) (fun r h0 hq => ?_)
  obtain ⟨rfl, hh⟩ := hq
  replace hh := hh.symm
  subst hh
  refine zt_istore_n (L' := [zr 0 0, zi x1, zi (rowRefI h x1), zu, zu, zu]) kX11_notesRefused_5 (by decide) rfl ?_
  refine zt_iload_n kX11_notesRefused_6 rfl ?_
  refine zt_if_eq kX11_notesRefused_7 (fun c => ?_) (fun c => ?_)
  · replace H := H.1 c
    refine zt_aload_n kX11_notesRefused_12 rfl ?_
    refine zt_get (v := zr 22 0) kX11_notesRefused_13 fRX11_62 rfl (by decide) rfl ?_
    refine zt_iload_n kX11_notesRefused_16 rfl ?_
    obtain ⟨hv1, H⟩ := H
    refine zt_aaldH kX11_notesRefused_17 hv1 ?_
    refine zt_astore_n (L' := [zr 0 0, zi x1, zi (rowRefI h x1), zr 3 (x1.toNatClampNeg), zu, zu]) kX11_notesRefused_18 (by decide) rfl ?_
    refine zt_aload_n kX11_notesRefused_19 rfl ?_
    refine zt_get (v := zi (h.1 3 (x1.toNatClampNeg) 4)) kX11_notesRefused_20 fRX11_241 rfl (zok3 hv1) rfl ?_
    refine zt_iconst (v := 2) kX11_notesRefused_23 rfl ?_
    refine zt_irem kX11_notesRefused_24 (by decide) ?_
    refine zt_if_eq kX11_notesRefused_25 (fun c => ?_) (fun c => ?_)
    · replace H := H.1 c
      refine zt_iconst (v := 0) kX11_notesRefused_31 rfl ?_
      refine zt_istore (L' := [zr 0 0, zi x1, zi (rowRefI h x1), zr 3 (x1.toNatClampNeg), zi 0, zu]) kX11_notesRefused_32 (by decide) rfl ?_
      exact H
    · replace H := H.2 c
      refine zt_bipush (v := (-13)) kX11_notesRefused_28 rfl ?_
      exact zt_iret kX11_notesRefused_30 rfl H
  · replace H := H.2 c
    refine zt_iload_n kX11_notesRefused_10 rfl ?_
    exact zt_iret kX11_notesRefused_11 rfl H

set_option maxRecDepth 10000 in
theorem wX11_notesRefused_34 {G : ZG} {d : Nat} {h : ZH} {Q : Option ZV → ZH → Prop} {x1 : Int32} {x2 : Int32} {i3 : Nat} {x4 : Int32} (hi3 : i3 < zcnt 3)
  (H : ((h.1 3 i3 4) ≤ x4 → Q (some (zi 0)) h) ∧ (¬ (h.1 3 i3 4) ≤ x4 → h.1 3 i3 4 ≤ 100 ∧ (h.1 3 i3 4 ≤ 100 ∧ ((¬ (0 ≤ (shAt h i3 x4) ∧ (shAt h i3 x4) ≤ 11) → Q (some (zi (-13))) h) ∧ ((0 ≤ (shAt h i3 x4) ∧ (shAt h i3 x4) ≤ 11) → ((shAt h i3 (x4 + 1)) < 0 → Q (some (zi (-13))) h) ∧ (¬ (shAt h i3 (x4 + 1)) < 0 → ((shAt h i3 (x4 + 1)) ≤ 50 → zT G (d + 3) mX11_notesRefused 34 [zr 0 0, zi x1, zi x2, zr 3 i3, zi (x4 + 2), zu] [] h Q) ∧ (¬ (shAt h i3 (x4 + 1)) ≤ 50 → Q (some (zi (-13))) h))))))) :
  zT G (d + 3) mX11_notesRefused 34 [zr 0 0, zi x1, zi x2, zr 3 i3, zi x4, zu] [] h Q := by
  refine zt_iload kX11_notesRefused_34 rfl ?_
  refine zt_aload_n kX11_notesRefused_36 rfl ?_
  refine zt_get (v := zi (h.1 3 i3 4)) kX11_notesRefused_37 fRX11_241 rfl hi3 rfl ?_
  refine zt_icmp_ge kX11_notesRefused_40 (fun c => ?_) (fun c => ?_)
  · replace H := H.1 c
    refine zt_iconst (v := 0) kX11_notesRefused_86 rfl ?_
    exact zt_iret kX11_notesRefused_87 rfl H
  · replace H := H.2 c
    refine zt_aload_n kX11_notesRefused_43 rfl ?_
    refine zt_iload kX11_notesRefused_44 rfl ?_
    refine zt_iconst (v := 1) kX11_notesRefused_46 rfl ?_
    refine zt_iadd kX11_notesRefused_47 ?_
    obtain ⟨pp0, H⟩ := H
    refine zt_cV (as := [zi (x4 + 1)]) kX11_notesRefused_48 sRX11_244 rfl hi3 rfl (by simp) rfl (sX8_at _ hi3 pp0) (fun r h0 hq => ?_)
    obtain ⟨rfl, hh⟩ := hq
    replace hh := hh.symm
    subst hh
    refine zt_istore (L' := [zr 0 0, zi x1, zi x2, zr 3 i3, zi x4, zi (shAt h i3 (x4 + 1))]) kX11_notesRefused_51 (by decide) rfl ?_
    refine zt_aload_n kX11_notesRefused_53 rfl ?_
    refine zt_iload kX11_notesRefused_54 rfl ?_
    obtain ⟨pp0, H⟩ := H
    refine zt_cV (as := [zi x4]) kX11_notesRefused_56 sRX11_244 rfl hi3 rfl (by simp) rfl (sX8_at _ hi3 pp0) (fun r h0 hq => ?_)
    obtain ⟨rfl, hh⟩ := hq
    replace hh := hh.symm
    subst hh
    refine zt_cS (as := [zi (shAt h i3 x4)]) kX11_notesRefused_59 sRX11_86 rfl (by simp) rfl (sX11_isPlace _  ) (fun r h0 hq => ?_)
    obtain ⟨rfl, hh⟩ := hq
    replace hh := hh.symm
    subst hh
    refine zt_ifb_eq kX11_notesRefused_62 (fun c => ?_) (fun c => ?_)
    · replace H := H.1 c
      refine zt_bipush (v := (-13)) kX11_notesRefused_77 rfl ?_
      exact zt_iret kX11_notesRefused_79 rfl H
    · replace H := H.2 c
      refine zt_iload kX11_notesRefused_65 rfl ?_
      refine zt_if_lt kX11_notesRefused_67 (fun c => ?_) (fun c => ?_)
      · replace H := H.1 c
        refine zt_bipush (v := (-13)) kX11_notesRefused_77 rfl ?_
        exact zt_iret kX11_notesRefused_79 rfl H
      · replace H := H.2 c
        refine zt_iload kX11_notesRefused_70 rfl ?_
        refine zt_bipush (v := 50) kX11_notesRefused_72 rfl ?_
        refine zt_icmp_le kX11_notesRefused_74 (fun c => ?_) (fun c => ?_)
        · replace H := H.1 c
          refine zt_iinc (v := (x4 + 2)) (L' := [zr 0 0, zi x1, zi x2, zr 3 i3, zi (x4 + 2), zi (shAt h i3 (x4 + 1))]) kX11_notesRefused_80 rfl rfl (by decide) rfl ?_
          refine zt_goto kX11_notesRefused_83 ?_
          exact zt_sub [zr 0 0, zi x1, zi x2, zr 3 i3, zi (x4 + 2), zu] ⟨rfl, ⟨rfl, ⟨rfl, ⟨rfl, ⟨rfl, trivial⟩⟩⟩⟩⟩ H
        · replace H := H.2 c
          refine zt_bipush (v := (-13)) kX11_notesRefused_77 rfl ?_
          exact zt_iret kX11_notesRefused_79 rfl H

theorem kX3_suspectsBy_0 : zD cX3_suspectsBy 0 1 (.iconst 0) 1 := by decide +kernel
theorem kX3_suspectsBy_1 : zD cX3_suspectsBy 1 2 (.istore_n 2) 1 := by decide +kernel
theorem kX3_suspectsBy_2 : zD cX3_suspectsBy 2 3 (.iconst 0) 1 := by decide +kernel
theorem kX3_suspectsBy_3 : zD cX3_suspectsBy 3 4 (.istore_n 3) 1 := by decide +kernel
theorem kX3_suspectsBy_4 : zD cX3_suspectsBy 4 5 (.iload_n 3) 1 := by decide +kernel
theorem kX3_suspectsBy_5 : zD cX3_suspectsBy 5 7 (.bipush 12) 2 := by decide +kernel
theorem kX3_suspectsBy_7 : zB cX3_suspectsBy 7 10 58 (.if_icmp .ge 51) 51 := by decide +kernel
theorem kX3_suspectsBy_10 : zD cX3_suspectsBy 10 11 (.aload_n 0) 1 := by decide +kernel
theorem kX3_suspectsBy_11 : zD cX3_suspectsBy 11 14 (.getfield 12) 3 := by decide +kernel
theorem kX3_suspectsBy_14 : zD cX3_suspectsBy 14 15 (.iload_n 3) 1 := by decide +kernel
theorem kX3_suspectsBy_15 : zD cX3_suspectsBy 15 18 (.invokevirtual 61) 3 := by decide +kernel
theorem kX3_suspectsBy_18 : zB cX3_suspectsBy 18 21 52 (.ifCond .eq 34) 34 := by decide +kernel
theorem kX3_suspectsBy_21 : zD cX3_suspectsBy 21 22 (.aload_n 0) 1 := by decide +kernel
theorem kX3_suspectsBy_22 : zD cX3_suspectsBy 22 23 (.aload_n 0) 1 := by decide +kernel
theorem kX3_suspectsBy_23 : zD cX3_suspectsBy 23 24 (.aload_n 0) 1 := by decide +kernel
theorem kX3_suspectsBy_24 : zD cX3_suspectsBy 24 27 (.getfield 12) 3 := by decide +kernel
theorem kX3_suspectsBy_27 : zD cX3_suspectsBy 27 30 (.getfield 49) 3 := by decide +kernel
theorem kX3_suspectsBy_30 : zD cX3_suspectsBy 30 31 (.iconst 1) 1 := by decide +kernel
theorem kX3_suspectsBy_31 : zD cX3_suspectsBy 31 32 (.iload_n 3) 1 := by decide +kernel
theorem kX3_suspectsBy_32 : zD cX3_suspectsBy 32 33 (.ishl) 1 := by decide +kernel
theorem kX3_suspectsBy_33 : zD cX3_suspectsBy 33 34 (.iconst (-1)) 1 := by decide +kernel
theorem kX3_suspectsBy_34 : zD cX3_suspectsBy 34 35 (.ixor) 1 := by decide +kernel
theorem kX3_suspectsBy_35 : zD cX3_suspectsBy 35 36 (.iand) 1 := by decide +kernel
theorem kX3_suspectsBy_36 : zD cX3_suspectsBy 36 39 (.invokevirtual 52) 3 := by decide +kernel
theorem kX3_suspectsBy_39 : zD cX3_suspectsBy 39 40 (.aload_n 1) 1 := by decide +kernel
theorem kX3_suspectsBy_40 : zD cX3_suspectsBy 40 43 (.invokevirtual 95) 3 := by decide +kernel
theorem kX3_suspectsBy_43 : zB cX3_suspectsBy 43 46 52 (.ifCond .eq 9) 9 := by decide +kernel
theorem kX3_suspectsBy_46 : zD cX3_suspectsBy 46 47 (.iload_n 2) 1 := by decide +kernel
theorem kX3_suspectsBy_47 : zD cX3_suspectsBy 47 48 (.iconst 1) 1 := by decide +kernel
theorem kX3_suspectsBy_48 : zD cX3_suspectsBy 48 49 (.iload_n 3) 1 := by decide +kernel
theorem kX3_suspectsBy_49 : zD cX3_suspectsBy 49 50 (.ishl) 1 := by decide +kernel
theorem kX3_suspectsBy_50 : zD cX3_suspectsBy 50 51 (.ior) 1 := by decide +kernel
theorem kX3_suspectsBy_51 : zD cX3_suspectsBy 51 52 (.istore_n 2) 1 := by decide +kernel
theorem kX3_suspectsBy_52 : zD cX3_suspectsBy 52 55 (.iinc 3 1) 3 := by decide +kernel
theorem kX3_suspectsBy_55 : zB cX3_suspectsBy 55 58 4 (.goto (-51)) (-51) := by decide +kernel
theorem kX3_suspectsBy_58 : zD cX3_suspectsBy 58 59 (.iload_n 2) 1 := by decide +kernel
theorem kX3_suspectsBy_59 : zD cX3_suspectsBy 59 60 (.ireturn) 1 := by decide +kernel
set_option maxRecDepth 10000 in
theorem wX3_suspectsBy_0 {G : ZG} {d : Nat} {h : ZH} {Q : Option ZV → ZH → Prop} {i1 : Nat} (hi1 : i1 < zcnt 3)
  (H : zT G (d + 5) mX3_suspectsBy 4 [zr 1 0, zr 3 i1, zi 0, zi 0] [] h Q) :
  zT G (d + 5) mX3_suspectsBy 0 [zr 1 0, zr 3 i1, zu, zu] [] h Q := by
  refine zt_iconst (v := 0) kX3_suspectsBy_0 rfl ?_
  refine zt_istore_n (L' := [zr 1 0, zr 3 i1, zi 0, zu]) kX3_suspectsBy_1 (by decide) rfl ?_
  refine zt_iconst (v := 0) kX3_suspectsBy_2 rfl ?_
  refine zt_istore_n (L' := [zr 1 0, zr 3 i1, zi 0, zi 0]) kX3_suspectsBy_3 (by decide) rfl ?_
  exact H

set_option maxRecDepth 10000 in
theorem wX3_suspectsBy_4 {G : ZG} {d : Nat} {h : ZH} {Q : Option ZV → ZH → Prop} {i1 : Nat} {x2 : Int32} {x3 : Int32} (hi1 : i1 < zcnt 3)
  (H : (12 ≤ x3 → Q (some (zi x2)) h) ∧ (¬ 12 ≤ x3 → (¬ (hasI (h.1 2 0 6) x3) → zT G (d + 5) mX3_suspectsBy 4 [zr 1 0, zr 3 i1, zi x2, zi (x3 + 1)] [] h Q) ∧ ((hasI (h.1 2 0 6) x3) → zC G (d + 4) mX3_leftOf [zr 1 0, zi ((h.1 2 0 6) &&& (((1 : Int32) <<< (x3 &&& 31)) ^^^ (-1)))] h (fun r2 h1 => ∃ y3 : Int32, r2 = some (zi y3) ∧ zC G (d + 4) mX3_soundsAs [zr 1 0, zi y3, zr 3 i1] h1 (fun r5 h4 => ∃ y6 : Int32, r5 = some (zi y6) ∧ (y6 = 0 → zT G (d + 5) mX3_suspectsBy 4 [zr 1 0, zr 3 i1, zi x2, zi (x3 + 1)] [] h4 Q) ∧ (¬ y6 = 0 → zT G (d + 5) mX3_suspectsBy 4 [zr 1 0, zr 3 i1, zi (x2 ||| ((1 : Int32) <<< (x3 &&& 31))), zi (x3 + 1)] [] h4 Q)))))) :
  zT G (d + 5) mX3_suspectsBy 4 [zr 1 0, zr 3 i1, zi x2, zi x3] [] h Q := by
  refine zt_iload_n kX3_suspectsBy_4 rfl ?_
  refine zt_bipush (v := 12) kX3_suspectsBy_5 rfl ?_
  refine zt_icmp_ge kX3_suspectsBy_7 (fun c => ?_) (fun c => ?_)
  · replace H := H.1 c
    refine zt_iload_n kX3_suspectsBy_58 rfl ?_
    exact zt_iret kX3_suspectsBy_59 rfl H
  · replace H := H.2 c
    refine zt_aload_n kX3_suspectsBy_10 rfl ?_
    refine zt_get (v := zr 2 0) kX3_suspectsBy_11 fRX3_12 rfl (by decide) rfl ?_
    refine zt_iload_n kX3_suspectsBy_14 rfl ?_
    refine zt_cV (as := [zi x3]) kX3_suspectsBy_15 sRX3_61 rfl (by decide) rfl (by simp) rfl (sX4_holds _ (by decide) ) (fun r h0 hq => ?_)
    obtain ⟨rfl, hh⟩ := hq
    replace hh := hh.symm
    subst hh
    refine zt_ifb_eq kX3_suspectsBy_18 (fun c => ?_) (fun c => ?_)
    · replace H := H.1 c
      refine zt_iinc (v := (x3 + 1)) (L' := [zr 1 0, zr 3 i1, zi x2, zi (x3 + 1)]) kX3_suspectsBy_52 rfl rfl (by decide) rfl ?_
      refine zt_goto kX3_suspectsBy_55 ?_
      exact H
    · replace H := H.2 c
      refine zt_aload_n kX3_suspectsBy_21 rfl ?_
      refine zt_aload_n kX3_suspectsBy_22 rfl ?_
      refine zt_aload_n kX3_suspectsBy_23 rfl ?_
      refine zt_get (v := zr 2 0) kX3_suspectsBy_24 fRX3_12 rfl (by decide) rfl ?_
      refine zt_get (v := zi (h.1 2 0 6)) kX3_suspectsBy_27 fRX3_49 rfl (by decide) rfl ?_
      refine zt_iconst (v := 1) kX3_suspectsBy_30 rfl ?_
      refine zt_iload_n kX3_suspectsBy_31 rfl ?_
      refine zt_ishl kX3_suspectsBy_32 ?_
      refine zt_iconst (v := (-1)) kX3_suspectsBy_33 rfl ?_
      refine zt_ixor kX3_suspectsBy_34 ?_
      refine zt_iand kX3_suspectsBy_35 ?_
      refine zt_cV (as := [zi ((h.1 2 0 6) &&& (((1 : Int32) <<< (x3 &&& 31)) ^^^ (-1)))]) kX3_suspectsBy_36 sRX3_52 rfl (by decide) rfl (by simp) rfl H (fun r2 h1 H => ?_)
      obtain ⟨y3, rfl, H⟩ := H
      refine zt_aload_n kX3_suspectsBy_39 rfl ?_
      refine zt_cV (as := [zi y3, zr 3 i1]) kX3_suspectsBy_40 sRX3_95 rfl (by decide) rfl (by simp) rfl H (fun r5 h4 H => ?_)
      obtain ⟨y6, rfl, H⟩ := H
      refine zt_if_eq kX3_suspectsBy_43 (fun c => ?_) (fun c => ?_)
      · replace H := H.1 c
        refine zt_iinc (v := (x3 + 1)) (L' := [zr 1 0, zr 3 i1, zi x2, zi (x3 + 1)]) kX3_suspectsBy_52 rfl rfl (by decide) rfl ?_
        refine zt_goto kX3_suspectsBy_55 ?_
        exact H
      · replace H := H.2 c
        refine zt_iload_n kX3_suspectsBy_46 rfl ?_
        refine zt_iconst (v := 1) kX3_suspectsBy_47 rfl ?_
        refine zt_iload_n kX3_suspectsBy_48 rfl ?_
        refine zt_ishl kX3_suspectsBy_49 ?_
        refine zt_ior kX3_suspectsBy_50 ?_
        refine zt_istore_n (L' := [zr 1 0, zr 3 i1, zi (x2 ||| ((1 : Int32) <<< (x3 &&& 31))), zi x3]) kX3_suspectsBy_51 (by decide) rfl ?_
        refine zt_iinc (v := (x3 + 1)) (L' := [zr 1 0, zr 3 i1, zi (x2 ||| ((1 : Int32) <<< (x3 &&& 31))), zi (x3 + 1)]) kX3_suspectsBy_52 rfl rfl (by decide) rfl ?_
        refine zt_goto kX3_suspectsBy_55 ?_
        exact H

theorem kX3_soundsAs_0 : zD cX3_soundsAs 0 1 (.aload_n 0) 1 := by decide +kernel
theorem kX3_soundsAs_1 : zD cX3_soundsAs 1 4 (.getfield 12) 3 := by decide +kernel
theorem kX3_soundsAs_4 : zD cX3_soundsAs 4 5 (.iload_n 1) 1 := by decide +kernel
theorem kX3_soundsAs_5 : zD cX3_soundsAs 5 8 (.invokevirtual 99) 3 := by decide +kernel
theorem kX3_soundsAs_8 : zD cX3_soundsAs 8 9 (.iconst 0) 1 := by decide +kernel
theorem kX3_soundsAs_9 : zD cX3_soundsAs 9 10 (.istore_n 3) 1 := by decide +kernel
theorem kX3_soundsAs_10 : zD cX3_soundsAs 10 11 (.iload_n 3) 1 := by decide +kernel
theorem kX3_soundsAs_11 : zD cX3_soundsAs 11 12 (.iconst 1) 1 := by decide +kernel
theorem kX3_soundsAs_12 : zD cX3_soundsAs 12 13 (.iadd) 1 := by decide +kernel
theorem kX3_soundsAs_13 : zD cX3_soundsAs 13 14 (.aload_n 2) 1 := by decide +kernel
theorem kX3_soundsAs_14 : zD cX3_soundsAs 14 17 (.getfield 103) 3 := by decide +kernel
theorem kX3_soundsAs_17 : zB cX3_soundsAs 17 20 48 (.if_icmp .ge 31) 31 := by decide +kernel
theorem kX3_soundsAs_20 : zD cX3_soundsAs 20 21 (.aload_n 0) 1 := by decide +kernel
theorem kX3_soundsAs_21 : zD cX3_soundsAs 21 22 (.iload_n 1) 1 := by decide +kernel
theorem kX3_soundsAs_22 : zD cX3_soundsAs 22 23 (.aload_n 2) 1 := by decide +kernel
theorem kX3_soundsAs_23 : zD cX3_soundsAs 23 24 (.iload_n 3) 1 := by decide +kernel
theorem kX3_soundsAs_24 : zD cX3_soundsAs 24 27 (.invokevirtual 108) 3 := by decide +kernel
theorem kX3_soundsAs_27 : zD cX3_soundsAs 27 30 (.invokevirtual 111) 3 := by decide +kernel
theorem kX3_soundsAs_30 : zD cX3_soundsAs 30 31 (.aload_n 2) 1 := by decide +kernel
theorem kX3_soundsAs_31 : zD cX3_soundsAs 31 32 (.iload_n 3) 1 := by decide +kernel
theorem kX3_soundsAs_32 : zD cX3_soundsAs 32 33 (.iconst 1) 1 := by decide +kernel
theorem kX3_soundsAs_33 : zD cX3_soundsAs 33 34 (.iadd) 1 := by decide +kernel
theorem kX3_soundsAs_34 : zD cX3_soundsAs 34 37 (.invokevirtual 108) 3 := by decide +kernel
theorem kX3_soundsAs_37 : zB cX3_soundsAs 37 40 42 (.if_icmp .eq 5) 5 := by decide +kernel
theorem kX3_soundsAs_40 : zD cX3_soundsAs 40 41 (.iconst 0) 1 := by decide +kernel
theorem kX3_soundsAs_41 : zD cX3_soundsAs 41 42 (.ireturn) 1 := by decide +kernel
theorem kX3_soundsAs_42 : zD cX3_soundsAs 42 45 (.iinc 3 2) 3 := by decide +kernel
theorem kX3_soundsAs_45 : zB cX3_soundsAs 45 48 10 (.goto (-35)) (-35) := by decide +kernel
theorem kX3_soundsAs_48 : zD cX3_soundsAs 48 49 (.iconst 1) 1 := by decide +kernel
theorem kX3_soundsAs_49 : zD cX3_soundsAs 49 50 (.ireturn) 1 := by decide +kernel
set_option maxRecDepth 10000 in
theorem wX3_soundsAs_0 {G : ZG} {d : Nat} {h : ZH} {Q : Option ZV → ZH → Prop} {x1 : Int32} {i2 : Nat} (hi2 : i2 < zcnt 3)
  (H : zC G (d + 3) mX4_weighIn [zr 2 0, zi x1] h (fun r2 h1 => r2 = none ∧ zT G (d + 4) mX3_soundsAs 10 [zr 1 0, zi x1, zr 3 i2, zi 0] [] h1 Q)) :
  zT G (d + 4) mX3_soundsAs 0 [zr 1 0, zi x1, zr 3 i2, zu] [] h Q := by
  refine zt_aload_n kX3_soundsAs_0 rfl ?_
  refine zt_get (v := zr 2 0) kX3_soundsAs_1 fRX3_12 rfl (by decide) rfl ?_
  refine zt_iload_n kX3_soundsAs_4 rfl ?_
  refine zt_cV (as := [zi x1]) kX3_soundsAs_5 sRX3_99 rfl (by decide) rfl (by simp) rfl H (fun r2 h1 H => ?_)
  obtain ⟨rfl, H⟩ := H
  refine zt_iconst (v := 0) kX3_soundsAs_8 rfl ?_
  refine zt_istore_n (L' := [zr 1 0, zi x1, zr 3 i2, zi 0]) kX3_soundsAs_9 (by decide) rfl ?_
  exact H

set_option maxRecDepth 10000 in
theorem wX3_soundsAs_10 {G : ZG} {d : Nat} {h : ZH} {Q : Option ZV → ZH → Prop} {x1 : Int32} {i2 : Nat} {x3 : Int32} (hi2 : i2 < zcnt 3)
  (H : ((h.1 3 i2 4) ≤ (x3 + 1) → Q (some (zi 1)) h) ∧ (¬ (h.1 3 i2 4) ≤ (x3 + 1) → h.1 3 i2 4 ≤ 100 ∧ (zC G (d + 3) mX3_noteIn [zr 1 0, zi x1, zi (shAt h i2 x3)] h (fun r2 h1 => ∃ y3 : Int32, r2 = some (zi y3) ∧ h1.1 3 i2 4 ≤ 100 ∧ ((y3 = (shAt h1 i2 (x3 + 1)) → zT G (d + 4) mX3_soundsAs 10 [zr 1 0, zi x1, zr 3 i2, zi (x3 + 2)] [] h1 Q) ∧ (¬ y3 = (shAt h1 i2 (x3 + 1)) → Q (some (zi 0)) h1)))))) :
  zT G (d + 4) mX3_soundsAs 10 [zr 1 0, zi x1, zr 3 i2, zi x3] [] h Q := by
  refine zt_iload_n kX3_soundsAs_10 rfl ?_
  refine zt_iconst (v := 1) kX3_soundsAs_11 rfl ?_
  refine zt_iadd kX3_soundsAs_12 ?_
  refine zt_aload_n kX3_soundsAs_13 rfl ?_
  refine zt_get (v := zi (h.1 3 i2 4)) kX3_soundsAs_14 fRX3_103 rfl hi2 rfl ?_
  refine zt_icmp_ge kX3_soundsAs_17 (fun c => ?_) (fun c => ?_)
  · replace H := H.1 c
    refine zt_iconst (v := 1) kX3_soundsAs_48 rfl ?_
    exact zt_zret kX3_soundsAs_49 rfl (by decide) H
  · replace H := H.2 c
    refine zt_aload_n kX3_soundsAs_20 rfl ?_
    refine zt_iload_n kX3_soundsAs_21 rfl ?_
    refine zt_aload_n kX3_soundsAs_22 rfl ?_
    refine zt_iload_n kX3_soundsAs_23 rfl ?_
    obtain ⟨pp0, H⟩ := H
    refine zt_cV (as := [zi x3]) kX3_soundsAs_24 sRX3_108 rfl hi2 rfl (by simp) rfl (sX8_at _ hi2 pp0) (fun r h0 hq => ?_)
    obtain ⟨rfl, hh⟩ := hq
    replace hh := hh.symm
    subst hh
    refine zt_cV (as := [zi x1, zi (shAt h i2 x3)]) kX3_soundsAs_27 sRX3_111 rfl (by decide) rfl (by simp) rfl H (fun r2 h1 H => ?_)
    obtain ⟨y3, rfl, H⟩ := H
    refine zt_aload_n kX3_soundsAs_30 rfl ?_
    refine zt_iload_n kX3_soundsAs_31 rfl ?_
    refine zt_iconst (v := 1) kX3_soundsAs_32 rfl ?_
    refine zt_iadd kX3_soundsAs_33 ?_
    obtain ⟨pp0, H⟩ := H
    refine zt_cV (as := [zi (x3 + 1)]) kX3_soundsAs_34 sRX3_108 rfl hi2 rfl (by simp) rfl (sX8_at _ hi2 pp0) (fun r h0 hq => ?_)
    obtain ⟨rfl, hh⟩ := hq
    replace hh := hh.symm
    subst hh
    refine zt_icmp_eq kX3_soundsAs_37 (fun c => ?_) (fun c => ?_)
    · replace H := H.1 c
      refine zt_iinc (v := (x3 + 2)) (L' := [zr 1 0, zi x1, zr 3 i2, zi (x3 + 2)]) kX3_soundsAs_42 rfl rfl (by decide) rfl ?_
      refine zt_goto kX3_soundsAs_45 ?_
      exact H
    · replace H := H.2 c
      refine zt_iconst (v := 0) kX3_soundsAs_40 rfl ?_
      exact zt_zret kX3_soundsAs_41 rfl (by decide) H

theorem kX3_noteIn_0 : zD cX3_noteIn 0 1 (.iload_n 1) 1 := by decide +kernel
theorem kX3_noteIn_1 : zD cX3_noteIn 1 2 (.iload_n 2) 1 := by decide +kernel
theorem kX3_noteIn_2 : zD cX3_noteIn 2 3 (.ishr) 1 := by decide +kernel
theorem kX3_noteIn_3 : zD cX3_noteIn 3 4 (.iconst 1) 1 := by decide +kernel
theorem kX3_noteIn_4 : zD cX3_noteIn 4 5 (.iand) 1 := by decide +kernel
theorem kX3_noteIn_5 : zB cX3_noteIn 5 8 13 (.ifCond .ne 8) 8 := by decide +kernel
theorem kX3_noteIn_8 : zD cX3_noteIn 8 10 (.bipush 50) 2 := by decide +kernel
theorem kX3_noteIn_10 : zB cX3_noteIn 10 13 21 (.goto 11) 11 := by decide +kernel
theorem kX3_noteIn_13 : zD cX3_noteIn 13 14 (.aload_n 0) 1 := by decide +kernel
theorem kX3_noteIn_14 : zD cX3_noteIn 14 17 (.getfield 12) 3 := by decide +kernel
theorem kX3_noteIn_17 : zD cX3_noteIn 17 18 (.iload_n 2) 1 := by decide +kernel
theorem kX3_noteIn_18 : zD cX3_noteIn 18 21 (.invokevirtual 114) 3 := by decide +kernel
theorem kX3_noteIn_21 : zD cX3_noteIn 21 22 (.ireturn) 1 := by decide +kernel
set_option maxRecDepth 10000 in
theorem wX3_noteIn_0 {G : ZG} {d : Nat} {h : ZH} {Q : Option ZV → ZH → Prop} {x1 : Int32} {x2 : Int32} 
  (H : (¬ ((x1 >>> (x2 &&& 31)) &&& 1) = 0 → vp_in x2 12 ∧ (Q (some (zi (noteI (h.1 12 0 x2.toNatClampNeg) (h.1 15 0 x2.toNatClampNeg)))) h)) ∧ (((x1 >>> (x2 &&& 31)) &&& 1) = 0 → Q (some (zi 50)) h)) :
  zT G (d + 2) mX3_noteIn 0 [zr 1 0, zi x1, zi x2] [] h Q := by
  refine zt_iload_n kX3_noteIn_0 rfl ?_
  refine zt_iload_n kX3_noteIn_1 rfl ?_
  refine zt_ishr kX3_noteIn_2 ?_
  refine zt_iconst (v := 1) kX3_noteIn_3 rfl ?_
  refine zt_iand kX3_noteIn_4 ?_
  refine zt_if_ne kX3_noteIn_5 (fun c => ?_) (fun c => ?_)
  · replace H := H.1 c
    refine zt_aload_n kX3_noteIn_13 rfl ?_
    refine zt_get (v := zr 2 0) kX3_noteIn_14 fRX3_12 rfl (by decide) rfl ?_
    refine zt_iload_n kX3_noteIn_17 rfl ?_
    obtain ⟨pp0, H⟩ := H
    refine zt_cV (as := [zi x2]) kX3_noteIn_18 sRX3_114 rfl (by decide) rfl (by simp) rfl (sX4_noteAt _ (by decide) pp0) (fun r h0 hq => ?_)
    obtain ⟨rfl, hh⟩ := hq
    replace hh := hh.symm
    subst hh
    exact zt_iret kX3_noteIn_21 rfl H
  · replace H := H.2 c
    refine zt_bipush (v := 50) kX3_noteIn_8 rfl ?_
    refine zt_goto kX3_noteIn_10 ?_
    exact zt_iret kX3_noteIn_21 rfl H

theorem kX11_tapNext_0 : zD cX11_tapNext 0 1 (.aload_n 0) 1 := by decide +kernel
theorem kX11_tapNext_1 : zD cX11_tapNext 1 2 (.iload_n 1) 1 := by decide +kernel
theorem kX11_tapNext_2 : zD cX11_tapNext 2 5 (.invokevirtual 201) 3 := by decide +kernel
theorem kX11_tapNext_5 : zD cX11_tapNext 5 6 (.istore_n 2) 1 := by decide +kernel
theorem kX11_tapNext_6 : zD cX11_tapNext 6 7 (.iload_n 2) 1 := by decide +kernel
theorem kX11_tapNext_7 : zB cX11_tapNext 7 10 14 (.ifCond .eq 7) 7 := by decide +kernel
theorem kX11_tapNext_10 : zD cX11_tapNext 10 11 (.iload_n 2) 1 := by decide +kernel
theorem kX11_tapNext_11 : zB cX11_tapNext 11 14 34 (.goto 23) 23 := by decide +kernel
theorem kX11_tapNext_14 : zD cX11_tapNext 14 15 (.aload_n 0) 1 := by decide +kernel
theorem kX11_tapNext_15 : zD cX11_tapNext 15 18 (.getfield 40) 3 := by decide +kernel
theorem kX11_tapNext_18 : zD cX11_tapNext 18 19 (.aload_n 0) 1 := by decide +kernel
theorem kX11_tapNext_19 : zD cX11_tapNext 19 22 (.getfield 40) 3 := by decide +kernel
theorem kX11_tapNext_22 : zD cX11_tapNext 22 23 (.aload_n 0) 1 := by decide +kernel
theorem kX11_tapNext_23 : zD cX11_tapNext 23 26 (.getfield 62) 3 := by decide +kernel
theorem kX11_tapNext_26 : zD cX11_tapNext 26 27 (.iload_n 1) 1 := by decide +kernel
theorem kX11_tapNext_27 : zD cX11_tapNext 27 28 (.aaload) 1 := by decide +kernel
theorem kX11_tapNext_28 : zD cX11_tapNext 28 31 (.invokevirtual 204) 3 := by decide +kernel
theorem kX11_tapNext_31 : zD cX11_tapNext 31 34 (.invokevirtual 207) 3 := by decide +kernel
theorem kX11_tapNext_34 : zD cX11_tapNext 34 35 (.ireturn) 1 := by decide +kernel
set_option maxRecDepth 10000 in
theorem wX11_tapNext_0 {G : ZG} {d : Nat} {h : ZH} {Q : Option ZV → ZH → Prop} {x1 : Int32} 
  (H : zC G (d + 6) mX11_notesRefused [zr 0 0, zi x1] h (fun r2 h1 => ∃ y3 : Int32, r2 = some (zi y3) ∧ (y3 = 0 → vp_in x1 8 ∧ zC G (d + 6) mX3_suspectsBy [zr 1 0, zr 3 (x1.toNatClampNeg)] h1 (fun r6 h5 => ∃ y7 : Int32, r6 = some (zi y7) ∧ zC G (d + 6) mX3_bestTap [zr 1 0, zi y7] h5 (fun r9 h8 => ∃ y10 : Int32, r9 = some (zi y10) ∧ Q (some (zi y10)) h8))) ∧ (¬ y3 = 0 → Q (some (zi y3)) h1))) :
  zT G (d + 7) mX11_tapNext 0 [zr 0 0, zi x1, zu] [] h Q := by
  refine zt_aload_n kX11_tapNext_0 rfl ?_
  refine zt_iload_n kX11_tapNext_1 rfl ?_
  refine zt_cV (as := [zi x1]) kX11_tapNext_2 sRX11_201 rfl (by decide) rfl (by simp) rfl H (fun r2 h1 H => ?_)
  obtain ⟨y3, rfl, H⟩ := H
  refine zt_istore_n (L' := [zr 0 0, zi x1, zi y3]) kX11_tapNext_5 (by decide) rfl ?_
  refine zt_iload_n kX11_tapNext_6 rfl ?_
  refine zt_if_eq kX11_tapNext_7 (fun c => ?_) (fun c => ?_)
  · replace H := H.1 c
    refine zt_aload_n kX11_tapNext_14 rfl ?_
    refine zt_get (v := zr 1 0) kX11_tapNext_15 fRX11_40 rfl (by decide) rfl ?_
    refine zt_aload_n kX11_tapNext_18 rfl ?_
    refine zt_get (v := zr 1 0) kX11_tapNext_19 fRX11_40 rfl (by decide) rfl ?_
    refine zt_aload_n kX11_tapNext_22 rfl ?_
    refine zt_get (v := zr 22 0) kX11_tapNext_23 fRX11_62 rfl (by decide) rfl ?_
    refine zt_iload_n kX11_tapNext_26 rfl ?_
    obtain ⟨hv4, H⟩ := H
    refine zt_aaldH kX11_tapNext_27 hv4 ?_
    refine zt_cV (as := [zr 3 (x1.toNatClampNeg)]) kX11_tapNext_28 sRX11_204 rfl (by decide) rfl (by simp) rfl H (fun r6 h5 H => ?_)
    obtain ⟨y7, rfl, H⟩ := H
    refine zt_cV (as := [zi y7]) kX11_tapNext_31 sRX11_207 rfl (by decide) rfl (by simp) rfl H (fun r9 h8 H => ?_)
    obtain ⟨y10, rfl, H⟩ := H
    exact zt_iret kX11_tapNext_34 rfl H
  · replace H := H.2 c
    refine zt_iload_n kX11_tapNext_10 rfl ?_
    refine zt_goto kX11_tapNext_11 ?_
    exact zt_iret kX11_tapNext_34 rfl H

theorem kX3_bestTap_0 : zD cX3_bestTap 0 1 (.iload_n 1) 1 := by decide +kernel
theorem kX3_bestTap_1 : zD cX3_bestTap 1 4 (.invokestatic 56) 3 := by decide +kernel
theorem kX3_bestTap_4 : zD cX3_bestTap 4 5 (.iconst 2) 1 := by decide +kernel
theorem kX3_bestTap_5 : zB cX3_bestTap 5 8 11 (.if_icmp .ge 6) 6 := by decide +kernel
theorem kX3_bestTap_8 : zD cX3_bestTap 8 10 (.bipush (-4)) 2 := by decide +kernel
theorem kX3_bestTap_10 : zD cX3_bestTap 10 11 (.ireturn) 1 := by decide +kernel
theorem kX3_bestTap_11 : zD cX3_bestTap 11 12 (.aload_n 0) 1 := by decide +kernel
theorem kX3_bestTap_12 : zD cX3_bestTap 12 13 (.iload_n 1) 1 := by decide +kernel
theorem kX3_bestTap_13 : zD cX3_bestTap 13 16 (.invokevirtual 117) 3 := by decide +kernel
theorem kX3_bestTap_16 : zD cX3_bestTap 16 17 (.iconst 0) 1 := by decide +kernel
theorem kX3_bestTap_17 : zD cX3_bestTap 17 18 (.istore_n 2) 1 := by decide +kernel
theorem kX3_bestTap_18 : zD cX3_bestTap 18 19 (.iconst 1) 1 := by decide +kernel
theorem kX3_bestTap_19 : zD cX3_bestTap 19 20 (.istore_n 3) 1 := by decide +kernel
theorem kX3_bestTap_20 : zD cX3_bestTap 20 21 (.iload_n 3) 1 := by decide +kernel
theorem kX3_bestTap_21 : zD cX3_bestTap 21 23 (.bipush 12) 2 := by decide +kernel
theorem kX3_bestTap_23 : zB cX3_bestTap 23 26 55 (.if_icmp .ge 32) 32 := by decide +kernel
theorem kX3_bestTap_26 : zD cX3_bestTap 26 27 (.aload_n 0) 1 := by decide +kernel
theorem kX3_bestTap_27 : zD cX3_bestTap 27 30 (.getfield 25) 3 := by decide +kernel
theorem kX3_bestTap_30 : zD cX3_bestTap 30 31 (.iload_n 3) 1 := by decide +kernel
theorem kX3_bestTap_31 : zD cX3_bestTap 31 32 (.laload) 1 := by decide +kernel
theorem kX3_bestTap_32 : zD cX3_bestTap 32 35 (.invokestatic 120) 3 := by decide +kernel
theorem kX3_bestTap_35 : zD cX3_bestTap 35 36 (.aload_n 0) 1 := by decide +kernel
theorem kX3_bestTap_36 : zD cX3_bestTap 36 39 (.getfield 25) 3 := by decide +kernel
theorem kX3_bestTap_39 : zD cX3_bestTap 39 40 (.iload_n 2) 1 := by decide +kernel
theorem kX3_bestTap_40 : zD cX3_bestTap 40 41 (.laload) 1 := by decide +kernel
theorem kX3_bestTap_41 : zD cX3_bestTap 41 44 (.invokestatic 120) 3 := by decide +kernel
theorem kX3_bestTap_44 : zB cX3_bestTap 44 47 49 (.if_icmp .le 5) 5 := by decide +kernel
theorem kX3_bestTap_47 : zD cX3_bestTap 47 48 (.iload_n 3) 1 := by decide +kernel
theorem kX3_bestTap_48 : zD cX3_bestTap 48 49 (.istore_n 2) 1 := by decide +kernel
theorem kX3_bestTap_49 : zD cX3_bestTap 49 52 (.iinc 3 1) 3 := by decide +kernel
theorem kX3_bestTap_52 : zB cX3_bestTap 52 55 20 (.goto (-32)) (-32) := by decide +kernel
theorem kX3_bestTap_55 : zD cX3_bestTap 55 56 (.iload_n 2) 1 := by decide +kernel
theorem kX3_bestTap_56 : zD cX3_bestTap 56 57 (.ireturn) 1 := by decide +kernel
set_option maxRecDepth 10000 in
theorem wX3_bestTap_0 {G : ZG} {d : Nat} {h : ZH} {Q : Option ZV → ZH → Prop} {x1 : Int32} 
  (H : (2 ≤ (bcI x1) → zC G (d + 5) mX3_hearAll [zr 1 0, zi x1] h (fun r2 h1 => r2 = none ∧ zT G (d + 6) mX3_bestTap 20 [zr 1 0, zi x1, zi 0, zi 1] [] h1 Q)) ∧ (¬ 2 ≤ (bcI x1) → Q (some (zi (-4))) h)) :
  zT G (d + 6) mX3_bestTap 0 [zr 1 0, zi x1, zu, zu] [] h Q := by
  refine zt_iload_n kX3_bestTap_0 rfl ?_
  refine zt_cS (as := [zi x1]) kX3_bestTap_1 sRX3_56 rfl (by simp) rfl (sJ6_bitCount_0f7a4 _  ) (fun r h0 hq => ?_)
  obtain ⟨rfl, hh⟩ := hq
  replace hh := hh.symm
  subst hh
  refine zt_iconst (v := 2) kX3_bestTap_4 rfl ?_
  refine zt_icmp_ge kX3_bestTap_5 (fun c => ?_) (fun c => ?_)
  · replace H := H.1 c
    refine zt_aload_n kX3_bestTap_11 rfl ?_
    refine zt_iload_n kX3_bestTap_12 rfl ?_
    refine zt_cV (as := [zi x1]) kX3_bestTap_13 sRX3_117 rfl (by decide) rfl (by simp) rfl H (fun r2 h1 H => ?_)
    obtain ⟨rfl, H⟩ := H
    refine zt_iconst (v := 0) kX3_bestTap_16 rfl ?_
    refine zt_istore_n (L' := [zr 1 0, zi x1, zi 0, zu]) kX3_bestTap_17 (by decide) rfl ?_
    refine zt_iconst (v := 1) kX3_bestTap_18 rfl ?_
    refine zt_istore_n (L' := [zr 1 0, zi x1, zi 0, zi 1]) kX3_bestTap_19 (by decide) rfl ?_
    exact H
  · replace H := H.2 c
    refine zt_bipush (v := (-4)) kX3_bestTap_8 rfl ?_
    exact zt_iret kX3_bestTap_10 rfl H

set_option maxRecDepth 10000 in
theorem wX3_bestTap_20 {G : ZG} {d : Nat} {h : ZH} {Q : Option ZV → ZH → Prop} {x1 : Int32} {x2 : Int32} {x3 : Int32} 
  (H : (12 ≤ x3 → Q (some (zi x2)) h) ∧ (¬ 12 ≤ x3 → vp_in x3 12 ∧ zC G (d + 5) mJ13_bitCount_95d88 [zl (h.2 19 0 x3.toNatClampNeg)] h (fun r2 h1 => ∃ y3 : Int32, r2 = some (zi y3) ∧ vp_in x2 12 ∧ zC G (d + 5) mJ13_bitCount_95d88 [zl (h1.2 19 0 x2.toNatClampNeg)] h1 (fun r5 h4 => ∃ y6 : Int32, r5 = some (zi y6) ∧ (y3 ≤ y6 → zT G (d + 6) mX3_bestTap 20 [zr 1 0, zi x1, zi x2, zi (x3 + 1)] [] h4 Q) ∧ (¬ y3 ≤ y6 → zT G (d + 6) mX3_bestTap 20 [zr 1 0, zi x1, zi x3, zi (x3 + 1)] [] h4 Q))))) :
  zT G (d + 6) mX3_bestTap 20 [zr 1 0, zi x1, zi x2, zi x3] [] h Q := by
  refine zt_iload_n kX3_bestTap_20 rfl ?_
  refine zt_bipush (v := 12) kX3_bestTap_21 rfl ?_
  refine zt_icmp_ge kX3_bestTap_23 (fun c => ?_) (fun c => ?_)
  · replace H := H.1 c
    refine zt_iload_n kX3_bestTap_55 rfl ?_
    exact zt_iret kX3_bestTap_56 rfl H
  · replace H := H.2 c
    refine zt_aload_n kX3_bestTap_26 rfl ?_
    refine zt_get (v := zr 19 0) kX3_bestTap_27 fRX3_25 rfl (by decide) rfl ?_
    refine zt_iload_n kX3_bestTap_30 rfl ?_
    obtain ⟨hv, H⟩ := H
    refine zt_lald kX3_bestTap_31 rfl (by decide) hv ?_
    refine zt_cS (as := [zl (h.2 19 0 x3.toNatClampNeg)]) kX3_bestTap_32 sRX3_120 rfl (by simp) rfl H (fun r2 h1 H => ?_)
    obtain ⟨y3, rfl, H⟩ := H
    refine zt_aload_n kX3_bestTap_35 rfl ?_
    refine zt_get (v := zr 19 0) kX3_bestTap_36 fRX3_25 rfl (by decide) rfl ?_
    refine zt_iload_n kX3_bestTap_39 rfl ?_
    obtain ⟨hv, H⟩ := H
    refine zt_lald kX3_bestTap_40 rfl (by decide) hv ?_
    refine zt_cS (as := [zl (h1.2 19 0 x2.toNatClampNeg)]) kX3_bestTap_41 sRX3_120 rfl (by simp) rfl H (fun r5 h4 H => ?_)
    obtain ⟨y6, rfl, H⟩ := H
    refine zt_icmp_le kX3_bestTap_44 (fun c => ?_) (fun c => ?_)
    · replace H := H.1 c
      refine zt_iinc (v := (x3 + 1)) (L' := [zr 1 0, zi x1, zi x2, zi (x3 + 1)]) kX3_bestTap_49 rfl rfl (by decide) rfl ?_
      refine zt_goto kX3_bestTap_52 ?_
      exact H
    · replace H := H.2 c
      refine zt_iload_n kX3_bestTap_47 rfl ?_
      refine zt_istore_n (L' := [zr 1 0, zi x1, zi x3, zi x3]) kX3_bestTap_48 (by decide) rfl ?_
      refine zt_iinc (v := (x3 + 1)) (L' := [zr 1 0, zi x1, zi x3, zi (x3 + 1)]) kX3_bestTap_49 rfl rfl (by decide) rfl ?_
      refine zt_goto kX3_bestTap_52 ?_
      exact H

theorem kX3_hearAll_0 : zD cX3_hearAll 0 1 (.aload_n 0) 1 := by decide +kernel
theorem kX3_hearAll_1 : zD cX3_hearAll 1 4 (.getfield 25) 3 := by decide +kernel
theorem kX3_hearAll_4 : zD cX3_hearAll 4 5 (.lconst 0) 1 := by decide +kernel
theorem kX3_hearAll_5 : zD cX3_hearAll 5 8 (.invokestatic 125) 3 := by decide +kernel
theorem kX3_hearAll_8 : zD cX3_hearAll 8 9 (.iconst 0) 1 := by decide +kernel
theorem kX3_hearAll_9 : zD cX3_hearAll 9 10 (.istore_n 2) 1 := by decide +kernel
theorem kX3_hearAll_10 : zD cX3_hearAll 10 11 (.iload_n 2) 1 := by decide +kernel
theorem kX3_hearAll_11 : zD cX3_hearAll 11 13 (.bipush 12) 2 := by decide +kernel
theorem kX3_hearAll_13 : zB cX3_hearAll 13 16 94 (.if_icmp .ge 81) 81 := by decide +kernel
theorem kX3_hearAll_16 : zD cX3_hearAll 16 17 (.iload_n 1) 1 := by decide +kernel
theorem kX3_hearAll_17 : zD cX3_hearAll 17 18 (.iload_n 2) 1 := by decide +kernel
theorem kX3_hearAll_18 : zD cX3_hearAll 18 19 (.ishr) 1 := by decide +kernel
theorem kX3_hearAll_19 : zD cX3_hearAll 19 20 (.iconst 1) 1 := by decide +kernel
theorem kX3_hearAll_20 : zD cX3_hearAll 20 21 (.iand) 1 := by decide +kernel
theorem kX3_hearAll_21 : zB cX3_hearAll 21 24 27 (.ifCond .ne 6) 6 := by decide +kernel
theorem kX3_hearAll_24 : zB cX3_hearAll 24 27 88 (.goto 64) 64 := by decide +kernel
theorem kX3_hearAll_27 : zD cX3_hearAll 27 28 (.aload_n 0) 1 := by decide +kernel
theorem kX3_hearAll_28 : zD cX3_hearAll 28 29 (.aload_n 0) 1 := by decide +kernel
theorem kX3_hearAll_29 : zD cX3_hearAll 29 32 (.getfield 12) 3 := by decide +kernel
theorem kX3_hearAll_32 : zD cX3_hearAll 32 35 (.getfield 49) 3 := by decide +kernel
theorem kX3_hearAll_35 : zD cX3_hearAll 35 36 (.iconst 1) 1 := by decide +kernel
theorem kX3_hearAll_36 : zD cX3_hearAll 36 37 (.iload_n 2) 1 := by decide +kernel
theorem kX3_hearAll_37 : zD cX3_hearAll 37 38 (.ishl) 1 := by decide +kernel
theorem kX3_hearAll_38 : zD cX3_hearAll 38 39 (.iconst (-1)) 1 := by decide +kernel
theorem kX3_hearAll_39 : zD cX3_hearAll 39 40 (.ixor) 1 := by decide +kernel
theorem kX3_hearAll_40 : zD cX3_hearAll 40 41 (.iand) 1 := by decide +kernel
theorem kX3_hearAll_41 : zD cX3_hearAll 41 44 (.invokevirtual 52) 3 := by decide +kernel
theorem kX3_hearAll_44 : zD cX3_hearAll 44 45 (.istore_n 3) 1 := by decide +kernel
theorem kX3_hearAll_45 : zD cX3_hearAll 45 46 (.aload_n 0) 1 := by decide +kernel
theorem kX3_hearAll_46 : zD cX3_hearAll 46 49 (.getfield 12) 3 := by decide +kernel
theorem kX3_hearAll_49 : zD cX3_hearAll 49 50 (.iload_n 3) 1 := by decide +kernel
theorem kX3_hearAll_50 : zD cX3_hearAll 50 53 (.invokevirtual 99) 3 := by decide +kernel
theorem kX3_hearAll_53 : zD cX3_hearAll 53 54 (.iconst 0) 1 := by decide +kernel
theorem kX3_hearAll_54 : zD cX3_hearAll 54 56 (.istore 4) 2 := by decide +kernel
theorem kX3_hearAll_56 : zD cX3_hearAll 56 58 (.iload 4) 2 := by decide +kernel
theorem kX3_hearAll_58 : zD cX3_hearAll 58 60 (.bipush 12) 2 := by decide +kernel
theorem kX3_hearAll_60 : zB cX3_hearAll 60 63 88 (.if_icmp .ge 28) 28 := by decide +kernel
theorem kX3_hearAll_63 : zD cX3_hearAll 63 64 (.aload_n 0) 1 := by decide +kernel
theorem kX3_hearAll_64 : zD cX3_hearAll 64 67 (.getfield 25) 3 := by decide +kernel
theorem kX3_hearAll_67 : zD cX3_hearAll 67 69 (.iload 4) 2 := by decide +kernel
theorem kX3_hearAll_69 : zD cX3_hearAll 69 70 (.dup2) 1 := by decide +kernel
theorem kX3_hearAll_70 : zD cX3_hearAll 70 71 (.laload) 1 := by decide +kernel
theorem kX3_hearAll_71 : zD cX3_hearAll 71 72 (.lconst 1) 1 := by decide +kernel
theorem kX3_hearAll_72 : zD cX3_hearAll 72 73 (.aload_n 0) 1 := by decide +kernel
theorem kX3_hearAll_73 : zD cX3_hearAll 73 74 (.iload_n 3) 1 := by decide +kernel
theorem kX3_hearAll_74 : zD cX3_hearAll 74 76 (.iload 4) 2 := by decide +kernel
theorem kX3_hearAll_76 : zD cX3_hearAll 76 79 (.invokevirtual 111) 3 := by decide +kernel
theorem kX3_hearAll_79 : zD cX3_hearAll 79 80 (.lshl) 1 := by decide +kernel
theorem kX3_hearAll_80 : zD cX3_hearAll 80 81 (.lor) 1 := by decide +kernel
theorem kX3_hearAll_81 : zD cX3_hearAll 81 82 (.lastore) 1 := by decide +kernel
theorem kX3_hearAll_82 : zD cX3_hearAll 82 85 (.iinc 4 1) 3 := by decide +kernel
theorem kX3_hearAll_85 : zB cX3_hearAll 85 88 56 (.goto (-29)) (-29) := by decide +kernel
theorem kX3_hearAll_88 : zD cX3_hearAll 88 91 (.iinc 2 1) 3 := by decide +kernel
theorem kX3_hearAll_91 : zB cX3_hearAll 91 94 10 (.goto (-81)) (-81) := by decide +kernel
theorem kX3_hearAll_94 : zD cX3_hearAll 94 95 (.return_) 1 := by decide +kernel
set_option maxRecDepth 10000 in
theorem wX3_hearAll_0 {G : ZG} {d : Nat} {h : ZH} {Q : Option ZV → ZH → Prop} {x1 : Int32} 
  (H : zC G (d + 4) mJ7_fill_d0a16 [zr 19 0, zl 0] h (fun r2 h1 => r2 = none ∧ zT G (d + 5) mX3_hearAll 10 [zr 1 0, zi x1, zi 0, zu, zu] [] h1 Q)) :
  zT G (d + 5) mX3_hearAll 0 [zr 1 0, zi x1, zu, zu, zu] [] h Q := by
  refine zt_aload_n kX3_hearAll_0 rfl ?_
  refine zt_get (v := zr 19 0) kX3_hearAll_1 fRX3_25 rfl (by decide) rfl ?_
  refine zt_lconst (v := 0) kX3_hearAll_4 rfl ?_
  refine zt_cS (as := [zr 19 0, zl 0]) kX3_hearAll_5 sRX3_125 rfl (by simp) rfl H (fun r2 h1 H => ?_)
  obtain ⟨rfl, H⟩ := H
  refine zt_iconst (v := 0) kX3_hearAll_8 rfl ?_
  refine zt_istore_n (L' := [zr 1 0, zi x1, zi 0, zu, zu]) kX3_hearAll_9 (by decide) rfl ?_
  exact H

set_option maxRecDepth 10000 in
theorem wX3_hearAll_10 {G : ZG} {d : Nat} {h : ZH} {Q : Option ZV → ZH → Prop} {x1 : Int32} {x2 : Int32} 
  (H : (12 ≤ x2 → Q none h) ∧ (¬ 12 ≤ x2 → (¬ ((x1 >>> (x2 &&& 31)) &&& 1) = 0 → zC G (d + 4) mX3_leftOf [zr 1 0, zi ((h.1 2 0 6) &&& (((1 : Int32) <<< (x2 &&& 31)) ^^^ (-1)))] h (fun r2 h1 => ∃ y3 : Int32, r2 = some (zi y3) ∧ zC G (d + 4) mX4_weighIn [zr 2 0, zi y3] h1 (fun r5 h4 => r5 = none ∧ zT G (d + 5) mX3_hearAll 56 [zr 1 0, zi x1, zi x2, zi y3, zi 0] [] h4 Q))) ∧ (((x1 >>> (x2 &&& 31)) &&& 1) = 0 → zT G (d + 5) mX3_hearAll 10 [zr 1 0, zi x1, zi (x2 + 1), zu, zu] [] h Q))) :
  zT G (d + 5) mX3_hearAll 10 [zr 1 0, zi x1, zi x2, zu, zu] [] h Q := by
  refine zt_iload_n kX3_hearAll_10 rfl ?_
  refine zt_bipush (v := 12) kX3_hearAll_11 rfl ?_
  refine zt_icmp_ge kX3_hearAll_13 (fun c => ?_) (fun c => ?_)
  · replace H := H.1 c
    exact zt_vret kX3_hearAll_94 rfl H
  · replace H := H.2 c
    refine zt_iload_n kX3_hearAll_16 rfl ?_
    refine zt_iload_n kX3_hearAll_17 rfl ?_
    refine zt_ishr kX3_hearAll_18 ?_
    refine zt_iconst (v := 1) kX3_hearAll_19 rfl ?_
    refine zt_iand kX3_hearAll_20 ?_
    refine zt_if_ne kX3_hearAll_21 (fun c => ?_) (fun c => ?_)
    · replace H := H.1 c
      refine zt_aload_n kX3_hearAll_27 rfl ?_
      refine zt_aload_n kX3_hearAll_28 rfl ?_
      refine zt_get (v := zr 2 0) kX3_hearAll_29 fRX3_12 rfl (by decide) rfl ?_
      refine zt_get (v := zi (h.1 2 0 6)) kX3_hearAll_32 fRX3_49 rfl (by decide) rfl ?_
      refine zt_iconst (v := 1) kX3_hearAll_35 rfl ?_
      refine zt_iload_n kX3_hearAll_36 rfl ?_
      refine zt_ishl kX3_hearAll_37 ?_
      refine zt_iconst (v := (-1)) kX3_hearAll_38 rfl ?_
      refine zt_ixor kX3_hearAll_39 ?_
      refine zt_iand kX3_hearAll_40 ?_
      refine zt_cV (as := [zi ((h.1 2 0 6) &&& (((1 : Int32) <<< (x2 &&& 31)) ^^^ (-1)))]) kX3_hearAll_41 sRX3_52 rfl (by decide) rfl (by simp) rfl H (fun r2 h1 H => ?_)
      obtain ⟨y3, rfl, H⟩ := H
      refine zt_istore_n (L' := [zr 1 0, zi x1, zi x2, zi y3, zu]) kX3_hearAll_44 (by decide) rfl ?_
      refine zt_aload_n kX3_hearAll_45 rfl ?_
      refine zt_get (v := zr 2 0) kX3_hearAll_46 fRX3_12 rfl (by decide) rfl ?_
      refine zt_iload_n kX3_hearAll_49 rfl ?_
      refine zt_cV (as := [zi y3]) kX3_hearAll_50 sRX3_99 rfl (by decide) rfl (by simp) rfl H (fun r5 h4 H => ?_)
      obtain ⟨rfl, H⟩ := H
      refine zt_iconst (v := 0) kX3_hearAll_53 rfl ?_
      refine zt_istore (L' := [zr 1 0, zi x1, zi x2, zi y3, zi 0]) kX3_hearAll_54 (by decide) rfl ?_
      exact H
    · replace H := H.2 c
      refine zt_goto kX3_hearAll_24 ?_
      refine zt_iinc (v := (x2 + 1)) (L' := [zr 1 0, zi x1, zi (x2 + 1), zu, zu]) kX3_hearAll_88 rfl rfl (by decide) rfl ?_
      refine zt_goto kX3_hearAll_91 ?_
      exact H

set_option maxRecDepth 10000 in
theorem wX3_hearAll_56 {G : ZG} {d : Nat} {h : ZH} {Q : Option ZV → ZH → Prop} {x1 : Int32} {x2 : Int32} {x3 : Int32} {x4 : Int32} 
  (H : (12 ≤ x4 → zT G (d + 5) mX3_hearAll 10 [zr 1 0, zi x1, zi (x2 + 1), zu, zu] [] h Q) ∧ (¬ 12 ≤ x4 → vp_in x4 12 ∧ zC G (d + 4) mX3_noteIn [zr 1 0, zi x3, zi x4] h (fun r2 h1 => ∃ y3 : Int32, r2 = some (zi y3) ∧ vp_in x4 12 ∧ (∀ h4 : ZH, h4 = zs2 h1 19 0 x4.toNatClampNeg ((h.2 19 0 x4.toNatClampNeg) ||| ((1 : Int64) <<< ((y3).toInt64 &&& 63))) → zT G (d + 5) mX3_hearAll 56 [zr 1 0, zi x1, zi x2, zi x3, zi (x4 + 1)] [] h4 Q)))) :
  zT G (d + 5) mX3_hearAll 56 [zr 1 0, zi x1, zi x2, zi x3, zi x4] [] h Q := by
  refine zt_iload kX3_hearAll_56 rfl ?_
  refine zt_bipush (v := 12) kX3_hearAll_58 rfl ?_
  refine zt_icmp_ge kX3_hearAll_60 (fun c => ?_) (fun c => ?_)
  · replace H := H.1 c
    refine zt_iinc (v := (x2 + 1)) (L' := [zr 1 0, zi x1, zi (x2 + 1), zi x3, zi x4]) kX3_hearAll_88 rfl rfl (by decide) rfl ?_
    refine zt_goto kX3_hearAll_91 ?_
    exact zt_sub [zr 1 0, zi x1, zi (x2 + 1), zu, zu] ⟨rfl, ⟨rfl, ⟨rfl, trivial⟩⟩⟩ H
  · replace H := H.2 c
    refine zt_aload_n kX3_hearAll_63 rfl ?_
    refine zt_get (v := zr 19 0) kX3_hearAll_64 fRX3_25 rfl (by decide) rfl ?_
    refine zt_iload kX3_hearAll_67 rfl ?_
    refine zt_dup2 kX3_hearAll_69 (by intro x q; cases q) (by intro x q; cases q) ?_
    obtain ⟨hv, H⟩ := H
    refine zt_lald kX3_hearAll_70 rfl (by decide) hv ?_
    refine zt_lconst (v := 1) kX3_hearAll_71 rfl ?_
    refine zt_aload_n kX3_hearAll_72 rfl ?_
    refine zt_iload_n kX3_hearAll_73 rfl ?_
    refine zt_iload kX3_hearAll_74 rfl ?_
    refine zt_cV (as := [zi x3, zi x4]) kX3_hearAll_76 sRX3_111 rfl (by decide) rfl (by simp) rfl H (fun r2 h1 H => ?_)
    obtain ⟨y3, rfl, H⟩ := H
    refine zt_lshl kX3_hearAll_79 ?_
    refine zt_lor kX3_hearAll_80 ?_
    obtain ⟨hv, H⟩ := H
    refine zt_last kX3_hearAll_81 rfl (by decide) hv ?_
    refine zt_heap (fun h4 eh4 => ?_)
    replace H := H h4 eh4
    refine zt_iinc (v := (x4 + 1)) (L' := [zr 1 0, zi x1, zi x2, zi x3, zi (x4 + 1)]) kX3_hearAll_82 rfl rfl (by decide) rfl ?_
    refine zt_goto kX3_hearAll_85 ?_
    exact H

theorem kX12_tins_0 : zD cX12_tins 0 1 (.iload_n 2) 1 := by decide +kernel
theorem kX12_tins_1 : zD cX12_tins 1 2 (.iconst 0) 1 := by decide +kernel
theorem kX12_tins_2 : zD cX12_tins 2 3 (.iconst 1) 1 := by decide +kernel
theorem kX12_tins_3 : zD cX12_tins 3 6 (.invokestatic 53) 3 := by decide +kernel
theorem kX12_tins_6 : zB cX12_tins 6 9 11 (.ifCond .ne 5) 5 := by decide +kernel
theorem kX12_tins_9 : zD cX12_tins 9 10 (.iconst (-1)) 1 := by decide +kernel
theorem kX12_tins_10 : zD cX12_tins 10 11 (.ireturn) 1 := by decide +kernel
theorem kX12_tins_11 : zD cX12_tins 11 12 (.aload_n 0) 1 := by decide +kernel
theorem kX12_tins_12 : zD cX12_tins 12 13 (.iload_n 1) 1 := by decide +kernel
theorem kX12_tins_13 : zD cX12_tins 13 16 (.invokevirtual 219) 3 := by decide +kernel
theorem kX12_tins_16 : zD cX12_tins 16 17 (.istore_n 3) 1 := by decide +kernel
theorem kX12_tins_17 : zD cX12_tins 17 18 (.iload_n 3) 1 := by decide +kernel
theorem kX12_tins_18 : zB cX12_tins 18 21 23 (.ifCond .eq 5) 5 := by decide +kernel
theorem kX12_tins_21 : zD cX12_tins 21 22 (.iload_n 3) 1 := by decide +kernel
theorem kX12_tins_22 : zD cX12_tins 22 23 (.ireturn) 1 := by decide +kernel
theorem kX12_tins_23 : zD cX12_tins 23 24 (.aload_n 0) 1 := by decide +kernel
theorem kX12_tins_24 : zD cX12_tins 24 25 (.iload_n 1) 1 := by decide +kernel
theorem kX12_tins_25 : zD cX12_tins 25 28 (.invokevirtual 222) 3 := by decide +kernel
theorem kX12_tins_28 : zD cX12_tins 28 29 (.iload_n 2) 1 := by decide +kernel
theorem kX12_tins_29 : zB cX12_tins 29 32 39 (.ifCond .ne 10) 10 := by decide +kernel
theorem kX12_tins_32 : zD cX12_tins 32 33 (.aload_n 0) 1 := by decide +kernel
theorem kX12_tins_33 : zD cX12_tins 33 36 (.getfield 209) 3 := by decide +kernel
theorem kX12_tins_36 : zB cX12_tins 36 39 43 (.goto 7) 7 := by decide +kernel
theorem kX12_tins_39 : zD cX12_tins 39 40 (.aload_n 0) 1 := by decide +kernel
theorem kX12_tins_40 : zD cX12_tins 40 43 (.getfield 212) 3 := by decide +kernel
theorem kX12_tins_43 : zD cX12_tins 43 44 (.ireturn) 1 := by decide +kernel
set_option maxRecDepth 10000 in
theorem wX12_tins_0 {G : ZG} {d : Nat} {h : ZH} {Q : Option ZV → ZH → Prop} {x1 : Int32} {x2 : Int32} 
  (H : (((0 : Int32) ≤ x2 ∧ x2 ≤ (1 : Int32)) → zC G (d + 8) mX12_wrongTins [zr 5 0, zi x1] h (fun r2 h1 => ∃ y3 : Int32, r2 = some (zi y3) ∧ (y3 = 0 → zC G (d + 8) mX12_goesThrough [zr 5 0, zi x1] h1 (fun r5 h4 => r5 = none ∧ (¬ x2 = 0 → Q (some (zi (h4.1 5 0 12))) h4) ∧ (x2 = 0 → Q (some (zi (h4.1 5 0 11))) h4))) ∧ (¬ y3 = 0 → Q (some (zi y3)) h1))) ∧ (¬ ((0 : Int32) ≤ x2 ∧ x2 ≤ (1 : Int32)) → Q (some (zi (-1))) h)) :
  zT G (d + 9) mX12_tins 0 [zr 5 0, zi x1, zi x2, zu] [] h Q := by
  refine zt_iload_n kX12_tins_0 rfl ?_
  refine zt_iconst (v := 0) kX12_tins_1 rfl ?_
  refine zt_iconst (v := 1) kX12_tins_2 rfl ?_
  refine zt_cS (as := [zi x2, zi 0, zi 1]) kX12_tins_3 sRX12_53 rfl (by simp) rfl (sX12_isIn _  ) (fun r h0 hq => ?_)
  obtain ⟨rfl, hh⟩ := hq
  replace hh := hh.symm
  subst hh
  refine zt_ifb_ne kX12_tins_6 (fun c => ?_) (fun c => ?_)
  · replace H := H.1 c
    refine zt_aload_n kX12_tins_11 rfl ?_
    refine zt_iload_n kX12_tins_12 rfl ?_
    refine zt_cV (as := [zi x1]) kX12_tins_13 sRX12_219 rfl (by decide) rfl (by simp) rfl H (fun r2 h1 H => ?_)
    obtain ⟨y3, rfl, H⟩ := H
    refine zt_istore_n (L' := [zr 5 0, zi x1, zi x2, zi y3]) kX12_tins_16 (by decide) rfl ?_
    refine zt_iload_n kX12_tins_17 rfl ?_
    refine zt_if_eq kX12_tins_18 (fun c => ?_) (fun c => ?_)
    · replace H := H.1 c
      refine zt_aload_n kX12_tins_23 rfl ?_
      refine zt_iload_n kX12_tins_24 rfl ?_
      refine zt_cV (as := [zi x1]) kX12_tins_25 sRX12_222 rfl (by decide) rfl (by simp) rfl H (fun r5 h4 H => ?_)
      obtain ⟨rfl, H⟩ := H
      refine zt_iload_n kX12_tins_28 rfl ?_
      refine zt_if_ne kX12_tins_29 (fun c => ?_) (fun c => ?_)
      · replace H := H.1 c
        refine zt_aload_n kX12_tins_39 rfl ?_
        refine zt_get (v := zi (h4.1 5 0 12)) kX12_tins_40 fRX12_212 rfl (by decide) rfl ?_
        exact zt_iret kX12_tins_43 rfl H
      · replace H := H.2 c
        refine zt_aload_n kX12_tins_32 rfl ?_
        refine zt_get (v := zi (h4.1 5 0 11)) kX12_tins_33 fRX12_209 rfl (by decide) rfl ?_
        refine zt_goto kX12_tins_36 ?_
        exact zt_iret kX12_tins_43 rfl H
    · replace H := H.2 c
      refine zt_iload_n kX12_tins_21 rfl ?_
      exact zt_iret kX12_tins_22 rfl H
  · replace H := H.2 c
    refine zt_iconst (v := (-1)) kX12_tins_9 rfl ?_
    exact zt_iret kX12_tins_10 rfl H

theorem kX12_wrongTins_0 : zD cX12_wrongTins 0 1 (.aload_n 0) 1 := by decide +kernel
theorem kX12_wrongTins_1 : zD cX12_wrongTins 1 2 (.iload_n 1) 1 := by decide +kernel
theorem kX12_wrongTins_2 : zD cX12_wrongTins 2 3 (.iconst (-1)) 1 := by decide +kernel
theorem kX12_wrongTins_3 : zD cX12_wrongTins 3 6 (.invokevirtual 140) 3 := by decide +kernel
theorem kX12_wrongTins_6 : zD cX12_wrongTins 6 7 (.istore_n 2) 1 := by decide +kernel
theorem kX12_wrongTins_7 : zD cX12_wrongTins 7 8 (.iload_n 2) 1 := by decide +kernel
theorem kX12_wrongTins_8 : zB cX12_wrongTins 8 11 26 (.ifCond .ne 18) 18 := by decide +kernel
theorem kX12_wrongTins_11 : zD cX12_wrongTins 11 12 (.aload_n 0) 1 := by decide +kernel
theorem kX12_wrongTins_12 : zD cX12_wrongTins 12 15 (.getfield 47) 3 := by decide +kernel
theorem kX12_wrongTins_15 : zD cX12_wrongTins 15 16 (.iload_n 1) 1 := by decide +kernel
theorem kX12_wrongTins_16 : zD cX12_wrongTins 16 17 (.iaload) 1 := by decide +kernel
theorem kX12_wrongTins_17 : zD cX12_wrongTins 17 18 (.iconst 4) 1 := by decide +kernel
theorem kX12_wrongTins_18 : zB cX12_wrongTins 18 21 26 (.if_icmp .le 8) 8 := by decide +kernel
theorem kX12_wrongTins_21 : zD cX12_wrongTins 21 23 (.bipush (-13)) 2 := by decide +kernel
theorem kX12_wrongTins_23 : zB cX12_wrongTins 23 26 27 (.goto 4) 4 := by decide +kernel
theorem kX12_wrongTins_26 : zD cX12_wrongTins 26 27 (.iload_n 2) 1 := by decide +kernel
theorem kX12_wrongTins_27 : zD cX12_wrongTins 27 28 (.ireturn) 1 := by decide +kernel
set_option maxRecDepth 10000 in
theorem wX12_wrongTins_0 {G : ZG} {d : Nat} {h : ZH} {Q : Option ZV → ZH → Prop} {x1 : Int32} 
  (H : (¬ (wRowI h x1 ((-1) : Int32)) = 0 → Q (some (zi (wRowI h x1 ((-1) : Int32)))) h) ∧ ((wRowI h x1 ((-1) : Int32)) = 0 → vp_in x1 8 ∧ ((h.1 42 0 x1.toNatClampNeg) ≤ 4 → Q (some (zi (wRowI h x1 ((-1) : Int32)))) h) ∧ (¬ (h.1 42 0 x1.toNatClampNeg) ≤ 4 → Q (some (zi (-13))) h))) :
  zT G (d + 4) mX12_wrongTins 0 [zr 5 0, zi x1, zu] [] h Q := by
  refine zt_aload_n kX12_wrongTins_0 rfl ?_
  refine zt_iload_n kX12_wrongTins_1 rfl ?_
  refine zt_iconst (v := (-1)) kX12_wrongTins_2 rfl ?_
  refine zt_cV (as := [zi x1, zi (-1)]) kX12_wrongTins_3 sRX12_140 rfl (by decide) rfl (by simp) rfl (sX12_wrongRow _  ) (fun r h0 hq => ?_)
  obtain ⟨rfl, hh⟩ := hq
  replace hh := hh.symm
  subst hh
  refine zt_istore_n (L' := [zr 5 0, zi x1, zi (wRowI h x1 ((-1) : Int32))]) kX12_wrongTins_6 (by decide) rfl ?_
  refine zt_iload_n kX12_wrongTins_7 rfl ?_
  refine zt_if_ne kX12_wrongTins_8 (fun c => ?_) (fun c => ?_)
  · replace H := H.1 c
    refine zt_iload_n kX12_wrongTins_26 rfl ?_
    exact zt_iret kX12_wrongTins_27 rfl H
  · replace H := H.2 c
    refine zt_aload_n kX12_wrongTins_11 rfl ?_
    refine zt_get (v := zr 42 0) kX12_wrongTins_12 fRX12_47 rfl (by decide) rfl ?_
    refine zt_iload_n kX12_wrongTins_15 rfl ?_
    obtain ⟨hv, H⟩ := H
    refine zt_iald kX12_wrongTins_16 rfl (by decide) hv ?_
    refine zt_iconst (v := 4) kX12_wrongTins_17 rfl ?_
    refine zt_icmp_le kX12_wrongTins_18 (fun c => ?_) (fun c => ?_)
    · replace H := H.1 c
      refine zt_iload_n kX12_wrongTins_26 rfl ?_
      exact zt_iret kX12_wrongTins_27 rfl H
    · replace H := H.2 c
      refine zt_bipush (v := (-13)) kX12_wrongTins_21 rfl ?_
      refine zt_goto kX12_wrongTins_23 ?_
      exact zt_iret kX12_wrongTins_27 rfl H

theorem kX12_goesThrough_0 : zD cX12_goesThrough 0 1 (.aload_n 0) 1 := by decide +kernel
theorem kX12_goesThrough_1 : zD cX12_goesThrough 1 2 (.iconst 0) 1 := by decide +kernel
theorem kX12_goesThrough_2 : zD cX12_goesThrough 2 5 (.putfield 209) 3 := by decide +kernel
theorem kX12_goesThrough_5 : zD cX12_goesThrough 5 6 (.aload_n 0) 1 := by decide +kernel
theorem kX12_goesThrough_6 : zD cX12_goesThrough 6 8 (.bipush (-4)) 2 := by decide +kernel
theorem kX12_goesThrough_8 : zD cX12_goesThrough 8 11 (.putfield 212) 3 := by decide +kernel
theorem kX12_goesThrough_11 : zD cX12_goesThrough 11 12 (.aload_n 0) 1 := by decide +kernel
theorem kX12_goesThrough_12 : zD cX12_goesThrough 12 13 (.iconst 0) 1 := by decide +kernel
theorem kX12_goesThrough_13 : zD cX12_goesThrough 13 16 (.putfield 206) 3 := by decide +kernel
theorem kX12_goesThrough_16 : zD cX12_goesThrough 16 17 (.aload_n 0) 1 := by decide +kernel
theorem kX12_goesThrough_17 : zD cX12_goesThrough 17 18 (.iload_n 1) 1 := by decide +kernel
theorem kX12_goesThrough_18 : zD cX12_goesThrough 18 19 (.iconst 0) 1 := by decide +kernel
theorem kX12_goesThrough_19 : zD cX12_goesThrough 19 20 (.aload_n 0) 1 := by decide +kernel
theorem kX12_goesThrough_20 : zD cX12_goesThrough 20 23 (.getfield 9) 3 := by decide +kernel
theorem kX12_goesThrough_23 : zD cX12_goesThrough 23 24 (.iconst 0) 1 := by decide +kernel
theorem kX12_goesThrough_24 : zD cX12_goesThrough 24 25 (.iaload) 1 := by decide +kernel
theorem kX12_goesThrough_25 : zD cX12_goesThrough 25 27 (.bipush (-4)) 2 := by decide +kernel
theorem kX12_goesThrough_27 : zD cX12_goesThrough 27 30 (.invokevirtual 215) 3 := by decide +kernel
theorem kX12_goesThrough_30 : zD cX12_goesThrough 30 31 (.return_) 1 := by decide +kernel
set_option maxRecDepth 10000 in
theorem wX12_goesThrough_0 {G : ZG} {d : Nat} {h : ZH} {Q : Option ZV → ZH → Prop} {x1 : Int32} 
  (H : ∀ h1 : ZH, h1 = zs1 h 5 0 11 0 → ∀ h2 : ZH, h2 = zs1 h1 5 0 12 (-4) → ∀ h3 : ZH, h3 = zs1 h2 5 0 13 0 → zC G (d + 7) mX12_takesAll [zr 5 0, zi x1, zi 0, zi (h3.1 30 0 0), zi (-4)] h3 (fun r5 h4 => r5 = none ∧ Q none h4)) :
  zT G (d + 8) mX12_goesThrough 0 [zr 5 0, zi x1] [] h Q := by
  refine zt_aload_n kX12_goesThrough_0 rfl ?_
  refine zt_iconst (v := 0) kX12_goesThrough_1 rfl ?_
  refine zt_put kX12_goesThrough_2 fRX12_209 pRX12_11 rfl (by decide) rfl ?_
  refine zt_heap (fun h1 eh1 => ?_)
  replace H := H h1 eh1
  refine zt_aload_n kX12_goesThrough_5 rfl ?_
  refine zt_bipush (v := (-4)) kX12_goesThrough_6 rfl ?_
  refine zt_put kX12_goesThrough_8 fRX12_212 pRX12_12 rfl (by decide) rfl ?_
  refine zt_heap (fun h2 eh2 => ?_)
  replace H := H h2 eh2
  refine zt_aload_n kX12_goesThrough_11 rfl ?_
  refine zt_iconst (v := 0) kX12_goesThrough_12 rfl ?_
  refine zt_put kX12_goesThrough_13 fRX12_206 pRX12_13 rfl (by decide) rfl ?_
  refine zt_heap (fun h3 eh3 => ?_)
  replace H := H h3 eh3
  refine zt_aload_n kX12_goesThrough_16 rfl ?_
  refine zt_iload_n kX12_goesThrough_17 rfl ?_
  refine zt_iconst (v := 0) kX12_goesThrough_18 rfl ?_
  refine zt_aload_n kX12_goesThrough_19 rfl ?_
  refine zt_get (v := zr 30 0) kX12_goesThrough_20 fRX12_9 rfl (by decide) rfl ?_
  refine zt_iconst (v := 0) kX12_goesThrough_23 rfl ?_
  refine zt_ialdc 0 rfl kX12_goesThrough_24 rfl (by decide) (zvp_dec (by decide)) ?_
  refine zt_bipush (v := (-4)) kX12_goesThrough_25 rfl ?_
  refine zt_cV (as := [zi x1, zi 0, zi (h3.1 30 0 0), zi (-4)]) kX12_goesThrough_27 sRX12_215 rfl (by decide) rfl (by simp) rfl H (fun r5 h4 H => ?_)
  obtain ⟨rfl, H⟩ := H
  exact zt_vret kX12_goesThrough_30 rfl H

theorem kX12_takesAll_0 : zD cX12_takesAll 0 1 (.aload_n 0) 1 := by decide +kernel
theorem kX12_takesAll_1 : zD cX12_takesAll 1 2 (.aload_n 0) 1 := by decide +kernel
theorem kX12_takesAll_2 : zD cX12_takesAll 2 5 (.getfield 206) 3 := by decide +kernel
theorem kX12_takesAll_5 : zD cX12_takesAll 5 6 (.iload_n 2) 1 := by decide +kernel
theorem kX12_takesAll_6 : zD cX12_takesAll 6 9 (.invokestatic 169) 3 := by decide +kernel
theorem kX12_takesAll_9 : zD cX12_takesAll 9 12 (.putfield 206) 3 := by decide +kernel
theorem kX12_takesAll_12 : zD cX12_takesAll 12 13 (.iload_n 2) 1 := by decide +kernel
theorem kX12_takesAll_13 : zD cX12_takesAll 13 14 (.aload_n 0) 1 := by decide +kernel
theorem kX12_takesAll_14 : zD cX12_takesAll 14 17 (.getfield 47) 3 := by decide +kernel
theorem kX12_takesAll_17 : zD cX12_takesAll 17 18 (.iload_n 1) 1 := by decide +kernel
theorem kX12_takesAll_18 : zD cX12_takesAll 18 19 (.iaload) 1 := by decide +kernel
theorem kX12_takesAll_19 : zB cX12_takesAll 19 22 46 (.if_icmp .ne 27) 27 := by decide +kernel
theorem kX12_takesAll_22 : zD cX12_takesAll 22 23 (.aload_n 0) 1 := by decide +kernel
theorem kX12_takesAll_23 : zD cX12_takesAll 23 26 (.getfield 209) 3 := by decide +kernel
theorem kX12_takesAll_26 : zB cX12_takesAll 26 29 35 (.ifCond .ne 9) 9 := by decide +kernel
theorem kX12_takesAll_29 : zD cX12_takesAll 29 30 (.aload_n 0) 1 := by decide +kernel
theorem kX12_takesAll_30 : zD cX12_takesAll 30 32 (.iload 4) 2 := by decide +kernel
theorem kX12_takesAll_32 : zD cX12_takesAll 32 35 (.putfield 212) 3 := by decide +kernel
theorem kX12_takesAll_35 : zD cX12_takesAll 35 36 (.aload_n 0) 1 := by decide +kernel
theorem kX12_takesAll_36 : zD cX12_takesAll 36 37 (.dup) 1 := by decide +kernel
theorem kX12_takesAll_37 : zD cX12_takesAll 37 40 (.getfield 209) 3 := by decide +kernel
theorem kX12_takesAll_40 : zD cX12_takesAll 40 41 (.iconst 1) 1 := by decide +kernel
theorem kX12_takesAll_41 : zD cX12_takesAll 41 42 (.iadd) 1 := by decide +kernel
theorem kX12_takesAll_42 : zD cX12_takesAll 42 45 (.putfield 209) 3 := by decide +kernel
theorem kX12_takesAll_45 : zD cX12_takesAll 45 46 (.return_) 1 := by decide +kernel
theorem kX12_takesAll_46 : zD cX12_takesAll 46 47 (.iconst 0) 1 := by decide +kernel
theorem kX12_takesAll_47 : zD cX12_takesAll 47 49 (.istore 5) 2 := by decide +kernel
theorem kX12_takesAll_49 : zD cX12_takesAll 49 51 (.iload 5) 2 := by decide +kernel
theorem kX12_takesAll_51 : zD cX12_takesAll 51 53 (.bipush 12) 2 := by decide +kernel
theorem kX12_takesAll_53 : zB cX12_takesAll 53 56 125 (.if_icmp .ge 72) 72 := by decide +kernel
theorem kX12_takesAll_56 : zD cX12_takesAll 56 57 (.iload_n 3) 1 := by decide +kernel
theorem kX12_takesAll_57 : zD cX12_takesAll 57 59 (.iload 5) 2 := by decide +kernel
theorem kX12_takesAll_59 : zD cX12_takesAll 59 62 (.invokestatic 57) 3 := by decide +kernel
theorem kX12_takesAll_62 : zB cX12_takesAll 62 65 68 (.ifCond .ne 6) 6 := by decide +kernel
theorem kX12_takesAll_65 : zB cX12_takesAll 65 68 119 (.goto 54) 54 := by decide +kernel
theorem kX12_takesAll_68 : zD cX12_takesAll 68 69 (.aload_n 0) 1 := by decide +kernel
theorem kX12_takesAll_69 : zD cX12_takesAll 69 70 (.iload_n 3) 1 := by decide +kernel
theorem kX12_takesAll_70 : zD cX12_takesAll 70 71 (.iconst 1) 1 := by decide +kernel
theorem kX12_takesAll_71 : zD cX12_takesAll 71 73 (.iload 5) 2 := by decide +kernel
theorem kX12_takesAll_73 : zD cX12_takesAll 73 74 (.ishl) 1 := by decide +kernel
theorem kX12_takesAll_74 : zD cX12_takesAll 74 77 (.invokevirtual 110) 3 := by decide +kernel
theorem kX12_takesAll_77 : zD cX12_takesAll 77 79 (.istore 6) 2 := by decide +kernel
theorem kX12_takesAll_79 : zD cX12_takesAll 79 81 (.iload 6) 2 := by decide +kernel
theorem kX12_takesAll_81 : zD cX12_takesAll 81 84 (.invokestatic 107) 3 := by decide +kernel
theorem kX12_takesAll_84 : zD cX12_takesAll 84 85 (.aload_n 0) 1 := by decide +kernel
theorem kX12_takesAll_85 : zD cX12_takesAll 85 88 (.getfield 50) 3 := by decide +kernel
theorem kX12_takesAll_88 : zD cX12_takesAll 88 90 (.bipush 100) 2 := by decide +kernel
theorem kX12_takesAll_90 : zD cX12_takesAll 90 91 (.iload_n 1) 1 := by decide +kernel
theorem kX12_takesAll_91 : zD cX12_takesAll 91 92 (.imul) 1 := by decide +kernel
theorem kX12_takesAll_92 : zD cX12_takesAll 92 93 (.iload_n 2) 1 := by decide +kernel
theorem kX12_takesAll_93 : zD cX12_takesAll 93 94 (.iadd) 1 := by decide +kernel
theorem kX12_takesAll_94 : zD cX12_takesAll 94 95 (.iaload) 1 := by decide +kernel
theorem kX12_takesAll_95 : zB cX12_takesAll 95 98 119 (.if_icmp .ne 24) 24 := by decide +kernel
theorem kX12_takesAll_98 : zD cX12_takesAll 98 99 (.aload_n 0) 1 := by decide +kernel
theorem kX12_takesAll_99 : zD cX12_takesAll 99 100 (.iload_n 1) 1 := by decide +kernel
theorem kX12_takesAll_100 : zD cX12_takesAll 100 101 (.iload_n 2) 1 := by decide +kernel
theorem kX12_takesAll_101 : zD cX12_takesAll 101 102 (.iconst 1) 1 := by decide +kernel
theorem kX12_takesAll_102 : zD cX12_takesAll 102 103 (.iadd) 1 := by decide +kernel
theorem kX12_takesAll_103 : zD cX12_takesAll 103 105 (.iload 6) 2 := by decide +kernel
theorem kX12_takesAll_105 : zD cX12_takesAll 105 106 (.iload_n 2) 1 := by decide +kernel
theorem kX12_takesAll_106 : zB cX12_takesAll 106 109 114 (.ifCond .ne 8) 8 := by decide +kernel
theorem kX12_takesAll_109 : zD cX12_takesAll 109 111 (.iload 5) 2 := by decide +kernel
theorem kX12_takesAll_111 : zB cX12_takesAll 111 114 116 (.goto 5) 5 := by decide +kernel
theorem kX12_takesAll_114 : zD cX12_takesAll 114 116 (.iload 4) 2 := by decide +kernel
theorem kX12_takesAll_116 : zD cX12_takesAll 116 119 (.invokevirtual 215) 3 := by decide +kernel
theorem kX12_takesAll_119 : zD cX12_takesAll 119 122 (.iinc 5 1) 3 := by decide +kernel
theorem kX12_takesAll_122 : zB cX12_takesAll 122 125 49 (.goto (-73)) (-73) := by decide +kernel
theorem kX12_takesAll_125 : zD cX12_takesAll 125 126 (.return_) 1 := by decide +kernel
set_option maxRecDepth 10000 in
theorem wX12_takesAll_0 {G : ZG} {d : Nat} {h : ZH} {Q : Option ZV → ZH → Prop} {x1 : Int32} {x2 : Int32} {x3 : Int32} {x4 : Int32} 
  (H : ∀ h1 : ZH, h1 = zs1 h 5 0 13 (zmax (h.1 5 0 13) x2) → vp_in x1 8 ∧ (¬ x2 = (h1.1 42 0 x1.toNatClampNeg) → zT G (d + 7) mX12_takesAll 49 [zr 5 0, zi x1, zi x2, zi x3, zi x4, zi 0, zu] [] h1 Q) ∧ (x2 = (h1.1 42 0 x1.toNatClampNeg) → (¬ (h1.1 5 0 11) = 0 → ∀ h2 : ZH, h2 = zs1 h1 5 0 11 ((h1.1 5 0 11) + 1) → Q none h2) ∧ ((h1.1 5 0 11) = 0 → ∀ h3 : ZH, h3 = zs1 h1 5 0 12 x4 → ∀ h4 : ZH, h4 = zs1 h3 5 0 11 ((h3.1 5 0 11) + 1) → Q none h4))) :
  zT G (d + 7) mX12_takesAll 0 [zr 5 0, zi x1, zi x2, zi x3, zi x4, zu, zu] [] h Q := by
  refine zt_aload_n kX12_takesAll_0 rfl ?_
  refine zt_aload_n kX12_takesAll_1 rfl ?_
  refine zt_get (v := zi (h.1 5 0 13)) kX12_takesAll_2 fRX12_206 rfl (by decide) rfl ?_
  refine zt_iload_n kX12_takesAll_5 rfl ?_
  refine zt_cS (as := [zi (h.1 5 0 13), zi x2]) kX12_takesAll_6 sRX12_169 rfl (by simp) rfl (sX12_most _  ) (fun r h0 hq => ?_)
  obtain ⟨rfl, hh⟩ := hq
  replace hh := hh.symm
  subst hh
  refine zt_put kX12_takesAll_9 fRX12_206 pRX12_13 rfl (by decide) rfl ?_
  refine zt_heap (fun h1 eh1 => ?_)
  replace H := H h1 eh1
  refine zt_iload_n kX12_takesAll_12 rfl ?_
  refine zt_aload_n kX12_takesAll_13 rfl ?_
  refine zt_get (v := zr 42 0) kX12_takesAll_14 fRX12_47 rfl (by decide) rfl ?_
  refine zt_iload_n kX12_takesAll_17 rfl ?_
  obtain ⟨hv, H⟩ := H
  refine zt_iald kX12_takesAll_18 rfl (by decide) hv ?_
  refine zt_icmp_ne kX12_takesAll_19 (fun c => ?_) (fun c => ?_)
  · replace H := H.1 c
    refine zt_iconst (v := 0) kX12_takesAll_46 rfl ?_
    refine zt_istore (L' := [zr 5 0, zi x1, zi x2, zi x3, zi x4, zi 0, zu]) kX12_takesAll_47 (by decide) rfl ?_
    exact H
  · replace H := H.2 c
    refine zt_aload_n kX12_takesAll_22 rfl ?_
    refine zt_get (v := zi (h1.1 5 0 11)) kX12_takesAll_23 fRX12_209 rfl (by decide) rfl ?_
    refine zt_if_ne kX12_takesAll_26 (fun c => ?_) (fun c => ?_)
    · replace H := H.1 c
      refine zt_aload_n kX12_takesAll_35 rfl ?_
      refine zt_dup kX12_takesAll_36 (by intro x q; cases q) ?_
      refine zt_get (v := zi (h1.1 5 0 11)) kX12_takesAll_37 fRX12_209 rfl (by decide) rfl ?_
      refine zt_iconst (v := 1) kX12_takesAll_40 rfl ?_
      refine zt_iadd kX12_takesAll_41 ?_
      refine zt_put kX12_takesAll_42 fRX12_209 pRX12_11 rfl (by decide) rfl ?_
      refine zt_heap (fun h2 eh2 => ?_)
      replace H := H h2 eh2
      exact zt_vret kX12_takesAll_45 rfl H
    · replace H := H.2 c
      refine zt_aload_n kX12_takesAll_29 rfl ?_
      refine zt_iload kX12_takesAll_30 rfl ?_
      refine zt_put kX12_takesAll_32 fRX12_212 pRX12_12 rfl (by decide) rfl ?_
      refine zt_heap (fun h3 eh3 => ?_)
      replace H := H h3 eh3
      refine zt_aload_n kX12_takesAll_35 rfl ?_
      refine zt_dup kX12_takesAll_36 (by intro x q; cases q) ?_
      refine zt_get (v := zi (h3.1 5 0 11)) kX12_takesAll_37 fRX12_209 rfl (by decide) rfl ?_
      refine zt_iconst (v := 1) kX12_takesAll_40 rfl ?_
      refine zt_iadd kX12_takesAll_41 ?_
      refine zt_put kX12_takesAll_42 fRX12_209 pRX12_11 rfl (by decide) rfl ?_
      refine zt_heap (fun h4 eh4 => ?_)
      replace H := H h4 eh4
      exact zt_vret kX12_takesAll_45 rfl H

set_option maxRecDepth 10000 in
theorem wX12_takesAll_49 {G : ZG} {d : Nat} {h : ZH} {Q : Option ZV → ZH → Prop} {x1 : Int32} {x2 : Int32} {x3 : Int32} {x4 : Int32} {x5 : Int32} 
  (H : (12 ≤ x5 → Q none h) ∧ (¬ 12 ≤ x5 → ((hasI x3 x5) → zC G (d + 6) mX12_leftWithout [zr 5 0, zi x3, zi ((1 : Int32) <<< (x5 &&& 31))] h (fun r2 h1 => ∃ y3 : Int32, r2 = some (zi y3) ∧ vp_in ((100 * x1) + x2) 800 ∧ (¬ (bitsI y3) = (h1.1 43 0 ((100 * x1) + x2).toNatClampNeg) → zT G (d + 7) mX12_takesAll 49 [zr 5 0, zi x1, zi x2, zi x3, zi x4, zi (x5 + 1), zu] [] h1 Q) ∧ ((bitsI y3) = (h1.1 43 0 ((100 * x1) + x2).toNatClampNeg) → (¬ x2 = 0 → zC G (d + 6) mX12_takesAll [zr 5 0, zi x1, zi (x2 + 1), zi y3, zi x4] h1 (fun r5 h4 => r5 = none ∧ zT G (d + 7) mX12_takesAll 49 [zr 5 0, zi x1, zi x2, zi x3, zi x4, zi (x5 + 1), zu] [] h4 Q)) ∧ (x2 = 0 → zC G (d + 6) mX12_takesAll [zr 5 0, zi x1, zi (x2 + 1), zi y3, zi x5] h1 (fun r7 h6 => r7 = none ∧ zT G (d + 7) mX12_takesAll 49 [zr 5 0, zi x1, zi x2, zi x3, zi x4, zi (x5 + 1), zu] [] h6 Q))))) ∧ (¬ (hasI x3 x5) → zT G (d + 7) mX12_takesAll 49 [zr 5 0, zi x1, zi x2, zi x3, zi x4, zi (x5 + 1), zu] [] h Q))) :
  zT G (d + 7) mX12_takesAll 49 [zr 5 0, zi x1, zi x2, zi x3, zi x4, zi x5, zu] [] h Q := by
  refine zt_iload kX12_takesAll_49 rfl ?_
  refine zt_bipush (v := 12) kX12_takesAll_51 rfl ?_
  refine zt_icmp_ge kX12_takesAll_53 (fun c => ?_) (fun c => ?_)
  · replace H := H.1 c
    exact zt_vret kX12_takesAll_125 rfl H
  · replace H := H.2 c
    refine zt_iload_n kX12_takesAll_56 rfl ?_
    refine zt_iload kX12_takesAll_57 rfl ?_
    refine zt_cS (as := [zi x3, zi x5]) kX12_takesAll_59 sRX12_57 rfl (by simp) rfl (sX12_has _  ) (fun r h0 hq => ?_)
    obtain ⟨rfl, hh⟩ := hq
    replace hh := hh.symm
    subst hh
    refine zt_ifb_ne kX12_takesAll_62 (fun c => ?_) (fun c => ?_)
    · replace H := H.1 c
      refine zt_aload_n kX12_takesAll_68 rfl ?_
      refine zt_iload_n kX12_takesAll_69 rfl ?_
      refine zt_iconst (v := 1) kX12_takesAll_70 rfl ?_
      refine zt_iload kX12_takesAll_71 rfl ?_
      refine zt_ishl kX12_takesAll_73 ?_
      refine zt_cV (as := [zi x3, zi ((1 : Int32) <<< (x5 &&& 31))]) kX12_takesAll_74 sRX12_110 rfl (by decide) rfl (by simp) rfl H (fun r2 h1 H => ?_)
      obtain ⟨y3, rfl, H⟩ := H
      refine zt_istore (L' := [zr 5 0, zi x1, zi x2, zi x3, zi x4, zi x5, zi y3]) kX12_takesAll_77 (by decide) rfl ?_
      refine zt_iload kX12_takesAll_79 rfl ?_
      refine zt_cS (as := [zi y3]) kX12_takesAll_81 sRX12_107 rfl (by simp) rfl (sX12_bits _  ) (fun r h0 hq => ?_)
      obtain ⟨rfl, hh⟩ := hq
      replace hh := hh.symm
      subst hh
      refine zt_aload_n kX12_takesAll_84 rfl ?_
      refine zt_get (v := zr 43 0) kX12_takesAll_85 fRX12_50 rfl (by decide) rfl ?_
      refine zt_bipush (v := 100) kX12_takesAll_88 rfl ?_
      refine zt_iload_n kX12_takesAll_90 rfl ?_
      refine zt_imul kX12_takesAll_91 ?_
      refine zt_iload_n kX12_takesAll_92 rfl ?_
      refine zt_iadd kX12_takesAll_93 ?_
      obtain ⟨hv, H⟩ := H
      refine zt_iald kX12_takesAll_94 rfl (by decide) hv ?_
      refine zt_icmp_ne kX12_takesAll_95 (fun c => ?_) (fun c => ?_)
      · replace H := H.1 c
        refine zt_iinc (v := (x5 + 1)) (L' := [zr 5 0, zi x1, zi x2, zi x3, zi x4, zi (x5 + 1), zi y3]) kX12_takesAll_119 rfl rfl (by decide) rfl ?_
        refine zt_goto kX12_takesAll_122 ?_
        exact zt_sub [zr 5 0, zi x1, zi x2, zi x3, zi x4, zi (x5 + 1), zu] ⟨rfl, ⟨rfl, ⟨rfl, ⟨rfl, ⟨rfl, ⟨rfl, trivial⟩⟩⟩⟩⟩⟩ H
      · replace H := H.2 c
        refine zt_aload_n kX12_takesAll_98 rfl ?_
        refine zt_iload_n kX12_takesAll_99 rfl ?_
        refine zt_iload_n kX12_takesAll_100 rfl ?_
        refine zt_iconst (v := 1) kX12_takesAll_101 rfl ?_
        refine zt_iadd kX12_takesAll_102 ?_
        refine zt_iload kX12_takesAll_103 rfl ?_
        refine zt_iload_n kX12_takesAll_105 rfl ?_
        refine zt_if_ne kX12_takesAll_106 (fun c => ?_) (fun c => ?_)
        · replace H := H.1 c
          refine zt_iload kX12_takesAll_114 rfl ?_
          refine zt_cV (as := [zi x1, zi (x2 + 1), zi y3, zi x4]) kX12_takesAll_116 sRX12_215 rfl (by decide) rfl (by simp) rfl H (fun r5 h4 H => ?_)
          obtain ⟨rfl, H⟩ := H
          refine zt_iinc (v := (x5 + 1)) (L' := [zr 5 0, zi x1, zi x2, zi x3, zi x4, zi (x5 + 1), zi y3]) kX12_takesAll_119 rfl rfl (by decide) rfl ?_
          refine zt_goto kX12_takesAll_122 ?_
          exact zt_sub [zr 5 0, zi x1, zi x2, zi x3, zi x4, zi (x5 + 1), zu] ⟨rfl, ⟨rfl, ⟨rfl, ⟨rfl, ⟨rfl, ⟨rfl, trivial⟩⟩⟩⟩⟩⟩ H
        · replace H := H.2 c
          refine zt_iload kX12_takesAll_109 rfl ?_
          refine zt_goto kX12_takesAll_111 ?_
          refine zt_cV (as := [zi x1, zi (x2 + 1), zi y3, zi x5]) kX12_takesAll_116 sRX12_215 rfl (by decide) rfl (by simp) rfl H (fun r7 h6 H => ?_)
          obtain ⟨rfl, H⟩ := H
          refine zt_iinc (v := (x5 + 1)) (L' := [zr 5 0, zi x1, zi x2, zi x3, zi x4, zi (x5 + 1), zi y3]) kX12_takesAll_119 rfl rfl (by decide) rfl ?_
          refine zt_goto kX12_takesAll_122 ?_
          exact zt_sub [zr 5 0, zi x1, zi x2, zi x3, zi x4, zi (x5 + 1), zu] ⟨rfl, ⟨rfl, ⟨rfl, ⟨rfl, ⟨rfl, ⟨rfl, trivial⟩⟩⟩⟩⟩⟩ H
    · replace H := H.2 c
      refine zt_goto kX12_takesAll_65 ?_
      refine zt_iinc (v := (x5 + 1)) (L' := [zr 5 0, zi x1, zi x2, zi x3, zi x4, zi (x5 + 1), zu]) kX12_takesAll_119 rfl rfl (by decide) rfl ?_
      refine zt_goto kX12_takesAll_122 ?_
      exact H

theorem kX12_forged_0 : zD cX12_forged 0 1 (.aload_n 0) 1 := by decide +kernel
theorem kX12_forged_1 : zD cX12_forged 1 2 (.iload_n 1) 1 := by decide +kernel
theorem kX12_forged_2 : zD cX12_forged 2 5 (.invokevirtual 219) 3 := by decide +kernel
theorem kX12_forged_5 : zD cX12_forged 5 6 (.istore_n 2) 1 := by decide +kernel
theorem kX12_forged_6 : zD cX12_forged 6 7 (.iload_n 2) 1 := by decide +kernel
theorem kX12_forged_7 : zB cX12_forged 7 10 12 (.ifCond .eq 5) 5 := by decide +kernel
theorem kX12_forged_10 : zD cX12_forged 10 11 (.iload_n 2) 1 := by decide +kernel
theorem kX12_forged_11 : zD cX12_forged 11 12 (.ireturn) 1 := by decide +kernel
theorem kX12_forged_12 : zD cX12_forged 12 13 (.aload_n 0) 1 := by decide +kernel
theorem kX12_forged_13 : zD cX12_forged 13 14 (.iload_n 1) 1 := by decide +kernel
theorem kX12_forged_14 : zD cX12_forged 14 17 (.invokevirtual 222) 3 := by decide +kernel
theorem kX12_forged_17 : zD cX12_forged 17 18 (.aload_n 0) 1 := by decide +kernel
theorem kX12_forged_18 : zD cX12_forged 18 21 (.getfield 206) 3 := by decide +kernel
theorem kX12_forged_21 : zD cX12_forged 21 22 (.aload_n 0) 1 := by decide +kernel
theorem kX12_forged_22 : zD cX12_forged 22 25 (.getfield 47) 3 := by decide +kernel
theorem kX12_forged_25 : zD cX12_forged 25 26 (.iload_n 1) 1 := by decide +kernel
theorem kX12_forged_26 : zD cX12_forged 26 27 (.iaload) 1 := by decide +kernel
theorem kX12_forged_27 : zB cX12_forged 27 30 35 (.if_icmp .ne 8) 8 := by decide +kernel
theorem kX12_forged_30 : zD cX12_forged 30 32 (.bipush (-4)) 2 := by decide +kernel
theorem kX12_forged_32 : zB cX12_forged 32 35 39 (.goto 7) 7 := by decide +kernel
theorem kX12_forged_35 : zD cX12_forged 35 36 (.aload_n 0) 1 := by decide +kernel
theorem kX12_forged_36 : zD cX12_forged 36 39 (.getfield 206) 3 := by decide +kernel
theorem kX12_forged_39 : zD cX12_forged 39 40 (.ireturn) 1 := by decide +kernel
set_option maxRecDepth 10000 in
theorem wX12_forged_0 {G : ZG} {d : Nat} {h : ZH} {Q : Option ZV → ZH → Prop} {x1 : Int32} 
  (H : zC G (d + 8) mX12_wrongTins [zr 5 0, zi x1] h (fun r2 h1 => ∃ y3 : Int32, r2 = some (zi y3) ∧ (y3 = 0 → zC G (d + 8) mX12_goesThrough [zr 5 0, zi x1] h1 (fun r5 h4 => r5 = none ∧ vp_in x1 8 ∧ (¬ (h4.1 5 0 13) = (h4.1 42 0 x1.toNatClampNeg) → Q (some (zi (h4.1 5 0 13))) h4) ∧ ((h4.1 5 0 13) = (h4.1 42 0 x1.toNatClampNeg) → Q (some (zi (-4))) h4))) ∧ (¬ y3 = 0 → Q (some (zi y3)) h1))) :
  zT G (d + 9) mX12_forged 0 [zr 5 0, zi x1, zu] [] h Q := by
  refine zt_aload_n kX12_forged_0 rfl ?_
  refine zt_iload_n kX12_forged_1 rfl ?_
  refine zt_cV (as := [zi x1]) kX12_forged_2 sRX12_219 rfl (by decide) rfl (by simp) rfl H (fun r2 h1 H => ?_)
  obtain ⟨y3, rfl, H⟩ := H
  refine zt_istore_n (L' := [zr 5 0, zi x1, zi y3]) kX12_forged_5 (by decide) rfl ?_
  refine zt_iload_n kX12_forged_6 rfl ?_
  refine zt_if_eq kX12_forged_7 (fun c => ?_) (fun c => ?_)
  · replace H := H.1 c
    refine zt_aload_n kX12_forged_12 rfl ?_
    refine zt_iload_n kX12_forged_13 rfl ?_
    refine zt_cV (as := [zi x1]) kX12_forged_14 sRX12_222 rfl (by decide) rfl (by simp) rfl H (fun r5 h4 H => ?_)
    obtain ⟨rfl, H⟩ := H
    refine zt_aload_n kX12_forged_17 rfl ?_
    refine zt_get (v := zi (h4.1 5 0 13)) kX12_forged_18 fRX12_206 rfl (by decide) rfl ?_
    refine zt_aload_n kX12_forged_21 rfl ?_
    refine zt_get (v := zr 42 0) kX12_forged_22 fRX12_47 rfl (by decide) rfl ?_
    refine zt_iload_n kX12_forged_25 rfl ?_
    obtain ⟨hv, H⟩ := H
    refine zt_iald kX12_forged_26 rfl (by decide) hv ?_
    refine zt_icmp_ne kX12_forged_27 (fun c => ?_) (fun c => ?_)
    · replace H := H.1 c
      refine zt_aload_n kX12_forged_35 rfl ?_
      refine zt_get (v := zi (h4.1 5 0 13)) kX12_forged_36 fRX12_206 rfl (by decide) rfl ?_
      exact zt_iret kX12_forged_39 rfl H
    · replace H := H.2 c
      refine zt_bipush (v := (-4)) kX12_forged_30 rfl ?_
      refine zt_goto kX12_forged_32 ?_
      exact zt_iret kX12_forged_39 rfl H
  · replace H := H.2 c
    refine zt_iload_n kX12_forged_10 rfl ?_
    exact zt_iret kX12_forged_11 rfl H

theorem kX12_wrongPairs_0 : zD cX12_wrongPairs 0 1 (.aload_n 0) 1 := by decide +kernel
theorem kX12_wrongPairs_1 : zD cX12_wrongPairs 1 2 (.iload_n 1) 1 := by decide +kernel
theorem kX12_wrongPairs_2 : zD cX12_wrongPairs 2 3 (.iconst (-1)) 1 := by decide +kernel
theorem kX12_wrongPairs_3 : zD cX12_wrongPairs 3 6 (.invokevirtual 140) 3 := by decide +kernel
theorem kX12_wrongPairs_6 : zD cX12_wrongPairs 6 7 (.istore_n 2) 1 := by decide +kernel
theorem kX12_wrongPairs_7 : zD cX12_wrongPairs 7 8 (.iload_n 2) 1 := by decide +kernel
theorem kX12_wrongPairs_8 : zB cX12_wrongPairs 8 11 13 (.ifCond .eq 5) 5 := by decide +kernel
theorem kX12_wrongPairs_11 : zD cX12_wrongPairs 11 12 (.iload_n 2) 1 := by decide +kernel
theorem kX12_wrongPairs_12 : zD cX12_wrongPairs 12 13 (.ireturn) 1 := by decide +kernel
theorem kX12_wrongPairs_13 : zD cX12_wrongPairs 13 14 (.aload_n 0) 1 := by decide +kernel
theorem kX12_wrongPairs_14 : zD cX12_wrongPairs 14 17 (.getfield 47) 3 := by decide +kernel
theorem kX12_wrongPairs_17 : zD cX12_wrongPairs 17 18 (.iload_n 1) 1 := by decide +kernel
theorem kX12_wrongPairs_18 : zD cX12_wrongPairs 18 19 (.iaload) 1 := by decide +kernel
theorem kX12_wrongPairs_19 : zD cX12_wrongPairs 19 20 (.iconst 2) 1 := by decide +kernel
theorem kX12_wrongPairs_20 : zD cX12_wrongPairs 20 21 (.irem) 1 := by decide +kernel
theorem kX12_wrongPairs_21 : zD cX12_wrongPairs 21 22 (.iconst 1) 1 := by decide +kernel
theorem kX12_wrongPairs_22 : zB cX12_wrongPairs 22 25 28 (.if_icmp .ne 6) 6 := by decide +kernel
theorem kX12_wrongPairs_25 : zD cX12_wrongPairs 25 27 (.bipush (-13)) 2 := by decide +kernel
theorem kX12_wrongPairs_27 : zD cX12_wrongPairs 27 28 (.ireturn) 1 := by decide +kernel
theorem kX12_wrongPairs_28 : zD cX12_wrongPairs 28 29 (.iconst 0) 1 := by decide +kernel
theorem kX12_wrongPairs_29 : zD cX12_wrongPairs 29 30 (.istore_n 3) 1 := by decide +kernel
theorem kX12_wrongPairs_30 : zD cX12_wrongPairs 30 31 (.iload_n 3) 1 := by decide +kernel
theorem kX12_wrongPairs_31 : zD cX12_wrongPairs 31 32 (.aload_n 0) 1 := by decide +kernel
theorem kX12_wrongPairs_32 : zD cX12_wrongPairs 32 35 (.getfield 47) 3 := by decide +kernel
theorem kX12_wrongPairs_35 : zD cX12_wrongPairs 35 36 (.iload_n 1) 1 := by decide +kernel
theorem kX12_wrongPairs_36 : zD cX12_wrongPairs 36 37 (.iaload) 1 := by decide +kernel
theorem kX12_wrongPairs_37 : zB cX12_wrongPairs 37 40 88 (.if_icmp .ge 51) 51 := by decide +kernel
theorem kX12_wrongPairs_40 : zD cX12_wrongPairs 40 41 (.aload_n 0) 1 := by decide +kernel
theorem kX12_wrongPairs_41 : zD cX12_wrongPairs 41 44 (.getfield 50) 3 := by decide +kernel
theorem kX12_wrongPairs_44 : zD cX12_wrongPairs 44 46 (.bipush 100) 2 := by decide +kernel
theorem kX12_wrongPairs_46 : zD cX12_wrongPairs 46 47 (.iload_n 1) 1 := by decide +kernel
theorem kX12_wrongPairs_47 : zD cX12_wrongPairs 47 48 (.imul) 1 := by decide +kernel
theorem kX12_wrongPairs_48 : zD cX12_wrongPairs 48 49 (.iload_n 3) 1 := by decide +kernel
theorem kX12_wrongPairs_49 : zD cX12_wrongPairs 49 50 (.iadd) 1 := by decide +kernel
theorem kX12_wrongPairs_50 : zD cX12_wrongPairs 50 51 (.iaload) 1 := by decide +kernel
theorem kX12_wrongPairs_51 : zD cX12_wrongPairs 51 54 (.invokestatic 130) 3 := by decide +kernel
theorem kX12_wrongPairs_54 : zB cX12_wrongPairs 54 57 79 (.ifCond .eq 25) 25 := by decide +kernel
theorem kX12_wrongPairs_57 : zD cX12_wrongPairs 57 58 (.aload_n 0) 1 := by decide +kernel
theorem kX12_wrongPairs_58 : zD cX12_wrongPairs 58 61 (.getfield 50) 3 := by decide +kernel
theorem kX12_wrongPairs_61 : zD cX12_wrongPairs 61 63 (.bipush 100) 2 := by decide +kernel
theorem kX12_wrongPairs_63 : zD cX12_wrongPairs 63 64 (.iload_n 1) 1 := by decide +kernel
theorem kX12_wrongPairs_64 : zD cX12_wrongPairs 64 65 (.imul) 1 := by decide +kernel
theorem kX12_wrongPairs_65 : zD cX12_wrongPairs 65 66 (.iload_n 3) 1 := by decide +kernel
theorem kX12_wrongPairs_66 : zD cX12_wrongPairs 66 67 (.iadd) 1 := by decide +kernel
theorem kX12_wrongPairs_67 : zD cX12_wrongPairs 67 68 (.iconst 1) 1 := by decide +kernel
theorem kX12_wrongPairs_68 : zD cX12_wrongPairs 68 69 (.iadd) 1 := by decide +kernel
theorem kX12_wrongPairs_69 : zD cX12_wrongPairs 69 70 (.iaload) 1 := by decide +kernel
theorem kX12_wrongPairs_70 : zD cX12_wrongPairs 70 71 (.iconst 0) 1 := by decide +kernel
theorem kX12_wrongPairs_71 : zD cX12_wrongPairs 71 73 (.bipush 50) 2 := by decide +kernel
theorem kX12_wrongPairs_73 : zD cX12_wrongPairs 73 76 (.invokestatic 53) 3 := by decide +kernel
theorem kX12_wrongPairs_76 : zB cX12_wrongPairs 76 79 82 (.ifCond .ne 6) 6 := by decide +kernel
theorem kX12_wrongPairs_79 : zD cX12_wrongPairs 79 81 (.bipush (-13)) 2 := by decide +kernel
theorem kX12_wrongPairs_81 : zD cX12_wrongPairs 81 82 (.ireturn) 1 := by decide +kernel
theorem kX12_wrongPairs_82 : zD cX12_wrongPairs 82 85 (.iinc 3 2) 3 := by decide +kernel
theorem kX12_wrongPairs_85 : zB cX12_wrongPairs 85 88 30 (.goto (-55)) (-55) := by decide +kernel
theorem kX12_wrongPairs_88 : zD cX12_wrongPairs 88 89 (.iconst 0) 1 := by decide +kernel
theorem kX12_wrongPairs_89 : zD cX12_wrongPairs 89 90 (.ireturn) 1 := by decide +kernel
set_option maxRecDepth 10000 in
theorem wX12_wrongPairs_0 {G : ZG} {d : Nat} {h : ZH} {Q : Option ZV → ZH → Prop} {x1 : Int32} 
  (H : ((wRowI h x1 ((-1) : Int32)) = 0 → vp_in x1 8 ∧ (¬ ((h.1 42 0 x1.toNatClampNeg) - (h.1 42 0 x1.toNatClampNeg) / 2 * 2) = 1 → zT G (d + 4) mX12_wrongPairs 30 [zr 5 0, zi x1, zi (wRowI h x1 ((-1) : Int32)), zi 0] [] h Q) ∧ (((h.1 42 0 x1.toNatClampNeg) - (h.1 42 0 x1.toNatClampNeg) / 2 * 2) = 1 → Q (some (zi (-13))) h)) ∧ (¬ (wRowI h x1 ((-1) : Int32)) = 0 → Q (some (zi (wRowI h x1 ((-1) : Int32)))) h)) :
  zT G (d + 4) mX12_wrongPairs 0 [zr 5 0, zi x1, zu, zu] [] h Q := by
  refine zt_aload_n kX12_wrongPairs_0 rfl ?_
  refine zt_iload_n kX12_wrongPairs_1 rfl ?_
  refine zt_iconst (v := (-1)) kX12_wrongPairs_2 rfl ?_
  refine zt_cV (as := [zi x1, zi (-1)]) kX12_wrongPairs_3 sRX12_140 rfl (by decide) rfl (by simp) rfl (sX12_wrongRow _  ) (fun r h0 hq => ?_)
  obtain ⟨rfl, hh⟩ := hq
  replace hh := hh.symm
  subst hh
  refine zt_istore_n (L' := [zr 5 0, zi x1, zi (wRowI h x1 ((-1) : Int32)), zu]) kX12_wrongPairs_6 (by decide) rfl ?_
  refine zt_iload_n kX12_wrongPairs_7 rfl ?_
  refine zt_if_eq kX12_wrongPairs_8 (fun c => ?_) (fun c => ?_)
  · replace H := H.1 c
    refine zt_aload_n kX12_wrongPairs_13 rfl ?_
    refine zt_get (v := zr 42 0) kX12_wrongPairs_14 fRX12_47 rfl (by decide) rfl ?_
    refine zt_iload_n kX12_wrongPairs_17 rfl ?_
    obtain ⟨hv, H⟩ := H
    refine zt_iald kX12_wrongPairs_18 rfl (by decide) hv ?_
    refine zt_iconst (v := 2) kX12_wrongPairs_19 rfl ?_
    refine zt_irem kX12_wrongPairs_20 (by decide) ?_
    refine zt_iconst (v := 1) kX12_wrongPairs_21 rfl ?_
    refine zt_icmp_ne kX12_wrongPairs_22 (fun c => ?_) (fun c => ?_)
    · replace H := H.1 c
      refine zt_iconst (v := 0) kX12_wrongPairs_28 rfl ?_
      refine zt_istore_n (L' := [zr 5 0, zi x1, zi (wRowI h x1 ((-1) : Int32)), zi 0]) kX12_wrongPairs_29 (by decide) rfl ?_
      exact H
    · replace H := H.2 c
      refine zt_bipush (v := (-13)) kX12_wrongPairs_25 rfl ?_
      exact zt_iret kX12_wrongPairs_27 rfl H
  · replace H := H.2 c
    refine zt_iload_n kX12_wrongPairs_11 rfl ?_
    exact zt_iret kX12_wrongPairs_12 rfl H

set_option maxRecDepth 10000 in
theorem wX12_wrongPairs_30 {G : ZG} {d : Nat} {h : ZH} {Q : Option ZV → ZH → Prop} {x1 : Int32} {x2 : Int32} {x3 : Int32} 
  (H : vp_in x1 8 ∧ ((h.1 42 0 x1.toNatClampNeg) ≤ x3 → Q (some (zi 0)) h) ∧ (¬ (h.1 42 0 x1.toNatClampNeg) ≤ x3 → vp_in ((100 * x1) + x3) 800 ∧ (¬ (0 ≤ (h.1 43 0 ((100 * x1) + x3).toNatClampNeg) ∧ (h.1 43 0 ((100 * x1) + x3).toNatClampNeg) ≤ 11) → Q (some (zi (-13))) h) ∧ ((0 ≤ (h.1 43 0 ((100 * x1) + x3).toNatClampNeg) ∧ (h.1 43 0 ((100 * x1) + x3).toNatClampNeg) ≤ 11) → vp_in (((100 * x1) + x3) + 1) 800 ∧ (((0 : Int32) ≤ (h.1 43 0 (((100 * x1) + x3) + 1).toNatClampNeg) ∧ (h.1 43 0 (((100 * x1) + x3) + 1).toNatClampNeg) ≤ (50 : Int32)) → zT G (d + 4) mX12_wrongPairs 30 [zr 5 0, zi x1, zi x2, zi (x3 + 2)] [] h Q) ∧ (¬ ((0 : Int32) ≤ (h.1 43 0 (((100 * x1) + x3) + 1).toNatClampNeg) ∧ (h.1 43 0 (((100 * x1) + x3) + 1).toNatClampNeg) ≤ (50 : Int32)) → Q (some (zi (-13))) h)))) :
  zT G (d + 4) mX12_wrongPairs 30 [zr 5 0, zi x1, zi x2, zi x3] [] h Q := by
  refine zt_iload_n kX12_wrongPairs_30 rfl ?_
  refine zt_aload_n kX12_wrongPairs_31 rfl ?_
  refine zt_get (v := zr 42 0) kX12_wrongPairs_32 fRX12_47 rfl (by decide) rfl ?_
  refine zt_iload_n kX12_wrongPairs_35 rfl ?_
  obtain ⟨hv, H⟩ := H
  refine zt_iald kX12_wrongPairs_36 rfl (by decide) hv ?_
  refine zt_icmp_ge kX12_wrongPairs_37 (fun c => ?_) (fun c => ?_)
  · replace H := H.1 c
    refine zt_iconst (v := 0) kX12_wrongPairs_88 rfl ?_
    exact zt_iret kX12_wrongPairs_89 rfl H
  · replace H := H.2 c
    refine zt_aload_n kX12_wrongPairs_40 rfl ?_
    refine zt_get (v := zr 43 0) kX12_wrongPairs_41 fRX12_50 rfl (by decide) rfl ?_
    refine zt_bipush (v := 100) kX12_wrongPairs_44 rfl ?_
    refine zt_iload_n kX12_wrongPairs_46 rfl ?_
    refine zt_imul kX12_wrongPairs_47 ?_
    refine zt_iload_n kX12_wrongPairs_48 rfl ?_
    refine zt_iadd kX12_wrongPairs_49 ?_
    obtain ⟨hv, H⟩ := H
    refine zt_iald kX12_wrongPairs_50 rfl (by decide) hv ?_
    refine zt_cS (as := [zi (h.1 43 0 ((100 * x1) + x3).toNatClampNeg)]) kX12_wrongPairs_51 sRX12_130 rfl (by simp) rfl (sX12_isPlace _  ) (fun r h0 hq => ?_)
    obtain ⟨rfl, hh⟩ := hq
    replace hh := hh.symm
    subst hh
    refine zt_ifb_eq kX12_wrongPairs_54 (fun c => ?_) (fun c => ?_)
    · replace H := H.1 c
      refine zt_bipush (v := (-13)) kX12_wrongPairs_79 rfl ?_
      exact zt_iret kX12_wrongPairs_81 rfl H
    · replace H := H.2 c
      refine zt_aload_n kX12_wrongPairs_57 rfl ?_
      refine zt_get (v := zr 43 0) kX12_wrongPairs_58 fRX12_50 rfl (by decide) rfl ?_
      refine zt_bipush (v := 100) kX12_wrongPairs_61 rfl ?_
      refine zt_iload_n kX12_wrongPairs_63 rfl ?_
      refine zt_imul kX12_wrongPairs_64 ?_
      refine zt_iload_n kX12_wrongPairs_65 rfl ?_
      refine zt_iadd kX12_wrongPairs_66 ?_
      refine zt_iconst (v := 1) kX12_wrongPairs_67 rfl ?_
      refine zt_iadd kX12_wrongPairs_68 ?_
      obtain ⟨hv, H⟩ := H
      refine zt_iald kX12_wrongPairs_69 rfl (by decide) hv ?_
      refine zt_iconst (v := 0) kX12_wrongPairs_70 rfl ?_
      refine zt_bipush (v := 50) kX12_wrongPairs_71 rfl ?_
      refine zt_cS (as := [zi (h.1 43 0 (((100 * x1) + x3) + 1).toNatClampNeg), zi 0, zi 50]) kX12_wrongPairs_73 sRX12_53 rfl (by simp) rfl (sX12_isIn _  ) (fun r h0 hq => ?_)
      obtain ⟨rfl, hh⟩ := hq
      replace hh := hh.symm
      subst hh
      refine zt_ifb_ne kX12_wrongPairs_76 (fun c => ?_) (fun c => ?_)
      · replace H := H.1 c
        refine zt_iinc (v := (x3 + 2)) (L' := [zr 5 0, zi x1, zi x2, zi (x3 + 2)]) kX12_wrongPairs_82 rfl rfl (by decide) rfl ?_
        refine zt_goto kX12_wrongPairs_85 ?_
        exact H
      · replace H := H.2 c
        refine zt_bipush (v := (-13)) kX12_wrongPairs_79 rfl ?_
        exact zt_iret kX12_wrongPairs_81 rfl H

theorem kX12_whichOf_0 : zD cX12_whichOf 0 1 (.iconst 0) 1 := by decide +kernel
theorem kX12_whichOf_1 : zD cX12_whichOf 1 2 (.istore_n 2) 1 := by decide +kernel
theorem kX12_whichOf_2 : zD cX12_whichOf 2 3 (.iconst 0) 1 := by decide +kernel
theorem kX12_whichOf_3 : zD cX12_whichOf 3 4 (.istore_n 3) 1 := by decide +kernel
theorem kX12_whichOf_4 : zD cX12_whichOf 4 5 (.iload_n 3) 1 := by decide +kernel
theorem kX12_whichOf_5 : zD cX12_whichOf 5 7 (.bipush 12) 2 := by decide +kernel
theorem kX12_whichOf_7 : zB cX12_whichOf 7 10 104 (.if_icmp .ge 97) 97 := by decide +kernel
theorem kX12_whichOf_10 : zD cX12_whichOf 10 11 (.aload_n 0) 1 := by decide +kernel
theorem kX12_whichOf_11 : zD cX12_whichOf 11 12 (.iload_n 3) 1 := by decide +kernel
theorem kX12_whichOf_12 : zD cX12_whichOf 12 15 (.invokevirtual 133) 3 := by decide +kernel
theorem kX12_whichOf_15 : zD cX12_whichOf 15 17 (.istore 4) 2 := by decide +kernel
theorem kX12_whichOf_17 : zD cX12_whichOf 17 18 (.iconst 0) 1 := by decide +kernel
theorem kX12_whichOf_18 : zD cX12_whichOf 18 20 (.istore 5) 2 := by decide +kernel
theorem kX12_whichOf_20 : zD cX12_whichOf 20 22 (.iload 5) 2 := by decide +kernel
theorem kX12_whichOf_22 : zD cX12_whichOf 22 23 (.aload_n 0) 1 := by decide +kernel
theorem kX12_whichOf_23 : zD cX12_whichOf 23 26 (.getfield 47) 3 := by decide +kernel
theorem kX12_whichOf_26 : zD cX12_whichOf 26 27 (.iload_n 1) 1 := by decide +kernel
theorem kX12_whichOf_27 : zD cX12_whichOf 27 28 (.iaload) 1 := by decide +kernel
theorem kX12_whichOf_28 : zB cX12_whichOf 28 31 83 (.if_icmp .ge 55) 55 := by decide +kernel
theorem kX12_whichOf_31 : zD cX12_whichOf 31 33 (.iload 4) 2 := by decide +kernel
theorem kX12_whichOf_33 : zB cX12_whichOf 33 36 83 (.ifCond .eq 50) 50 := by decide +kernel
theorem kX12_whichOf_36 : zD cX12_whichOf 36 37 (.aload_n 0) 1 := by decide +kernel
theorem kX12_whichOf_37 : zD cX12_whichOf 37 38 (.aload_n 0) 1 := by decide +kernel
theorem kX12_whichOf_38 : zD cX12_whichOf 38 41 (.getfield 50) 3 := by decide +kernel
theorem kX12_whichOf_41 : zD cX12_whichOf 41 43 (.bipush 100) 2 := by decide +kernel
theorem kX12_whichOf_43 : zD cX12_whichOf 43 44 (.iload_n 1) 1 := by decide +kernel
theorem kX12_whichOf_44 : zD cX12_whichOf 44 45 (.imul) 1 := by decide +kernel
theorem kX12_whichOf_45 : zD cX12_whichOf 45 47 (.iload 5) 2 := by decide +kernel
theorem kX12_whichOf_47 : zD cX12_whichOf 47 48 (.iadd) 1 := by decide +kernel
theorem kX12_whichOf_48 : zD cX12_whichOf 48 49 (.iaload) 1 := by decide +kernel
theorem kX12_whichOf_49 : zD cX12_whichOf 49 50 (.iload_n 3) 1 := by decide +kernel
theorem kX12_whichOf_50 : zD cX12_whichOf 50 53 (.invokevirtual 190) 3 := by decide +kernel
theorem kX12_whichOf_53 : zD cX12_whichOf 53 54 (.aload_n 0) 1 := by decide +kernel
theorem kX12_whichOf_54 : zD cX12_whichOf 54 57 (.getfield 50) 3 := by decide +kernel
theorem kX12_whichOf_57 : zD cX12_whichOf 57 59 (.bipush 100) 2 := by decide +kernel
theorem kX12_whichOf_59 : zD cX12_whichOf 59 60 (.iload_n 1) 1 := by decide +kernel
theorem kX12_whichOf_60 : zD cX12_whichOf 60 61 (.imul) 1 := by decide +kernel
theorem kX12_whichOf_61 : zD cX12_whichOf 61 63 (.iload 5) 2 := by decide +kernel
theorem kX12_whichOf_63 : zD cX12_whichOf 63 64 (.iadd) 1 := by decide +kernel
theorem kX12_whichOf_64 : zD cX12_whichOf 64 65 (.iconst 1) 1 := by decide +kernel
theorem kX12_whichOf_65 : zD cX12_whichOf 65 66 (.iadd) 1 := by decide +kernel
theorem kX12_whichOf_66 : zD cX12_whichOf 66 67 (.iaload) 1 := by decide +kernel
theorem kX12_whichOf_67 : zB cX12_whichOf 67 70 74 (.if_icmp .ne 7) 7 := by decide +kernel
theorem kX12_whichOf_70 : zD cX12_whichOf 70 71 (.iconst 1) 1 := by decide +kernel
theorem kX12_whichOf_71 : zB cX12_whichOf 71 74 75 (.goto 4) 4 := by decide +kernel
theorem kX12_whichOf_74 : zD cX12_whichOf 74 75 (.iconst 0) 1 := by decide +kernel
theorem kX12_whichOf_75 : zD cX12_whichOf 75 77 (.istore 4) 2 := by decide +kernel
theorem kX12_whichOf_77 : zD cX12_whichOf 77 80 (.iinc 5 2) 3 := by decide +kernel
theorem kX12_whichOf_80 : zB cX12_whichOf 80 83 20 (.goto (-60)) (-60) := by decide +kernel
theorem kX12_whichOf_83 : zD cX12_whichOf 83 84 (.iload_n 2) 1 := by decide +kernel
theorem kX12_whichOf_84 : zD cX12_whichOf 84 86 (.iload 4) 2 := by decide +kernel
theorem kX12_whichOf_86 : zB cX12_whichOf 86 89 95 (.ifCond .eq 9) 9 := by decide +kernel
theorem kX12_whichOf_89 : zD cX12_whichOf 89 90 (.iconst 1) 1 := by decide +kernel
theorem kX12_whichOf_90 : zD cX12_whichOf 90 91 (.iload_n 3) 1 := by decide +kernel
theorem kX12_whichOf_91 : zD cX12_whichOf 91 92 (.ishl) 1 := by decide +kernel
theorem kX12_whichOf_92 : zB cX12_whichOf 92 95 96 (.goto 4) 4 := by decide +kernel
theorem kX12_whichOf_95 : zD cX12_whichOf 95 96 (.iconst 0) 1 := by decide +kernel
theorem kX12_whichOf_96 : zD cX12_whichOf 96 97 (.ior) 1 := by decide +kernel
theorem kX12_whichOf_97 : zD cX12_whichOf 97 98 (.istore_n 2) 1 := by decide +kernel
theorem kX12_whichOf_98 : zD cX12_whichOf 98 101 (.iinc 3 1) 3 := by decide +kernel
theorem kX12_whichOf_101 : zB cX12_whichOf 101 104 4 (.goto (-97)) (-97) := by decide +kernel
theorem kX12_whichOf_104 : zD cX12_whichOf 104 105 (.iload_n 2) 1 := by decide +kernel
theorem kX12_whichOf_105 : zD cX12_whichOf 105 106 (.ireturn) 1 := by decide +kernel
set_option maxRecDepth 10000 in
theorem wX12_whichOf_0 {G : ZG} {d : Nat} {h : ZH} {Q : Option ZV → ZH → Prop} {x1 : Int32} 
  (H : zT G (d + 8) mX12_whichOf 4 [zr 5 0, zi x1, zi 0, zi 0, zu, zu] [] h Q) :
  zT G (d + 8) mX12_whichOf 0 [zr 5 0, zi x1, zu, zu, zu, zu] [] h Q := by
  refine zt_iconst (v := 0) kX12_whichOf_0 rfl ?_
  refine zt_istore_n (L' := [zr 5 0, zi x1, zi 0, zu, zu, zu]) kX12_whichOf_1 (by decide) rfl ?_
  refine zt_iconst (v := 0) kX12_whichOf_2 rfl ?_
  refine zt_istore_n (L' := [zr 5 0, zi x1, zi 0, zi 0, zu, zu]) kX12_whichOf_3 (by decide) rfl ?_
  exact H

set_option maxRecDepth 10000 in
theorem wX12_whichOf_4 {G : ZG} {d : Nat} {h : ZH} {Q : Option ZV → ZH → Prop} {x1 : Int32} {x2 : Int32} {x3 : Int32} 
  (H : (12 ≤ x3 → Q (some (zi x2)) h) ∧ (¬ 12 ≤ x3 → zT G (d + 8) mX12_whichOf 20 [zr 5 0, zi x1, zi x2, zi x3, zi (zb (hasI (h.1 30 0 0) x3)), zi 0] [] h Q)) :
  zT G (d + 8) mX12_whichOf 4 [zr 5 0, zi x1, zi x2, zi x3, zu, zu] [] h Q := by
  refine zt_iload_n kX12_whichOf_4 rfl ?_
  refine zt_bipush (v := 12) kX12_whichOf_5 rfl ?_
  refine zt_icmp_ge kX12_whichOf_7 (fun c => ?_) (fun c => ?_)
  · replace H := H.1 c
    refine zt_iload_n kX12_whichOf_104 rfl ?_
    exact zt_iret kX12_whichOf_105 rfl H
  · replace H := H.2 c
    refine zt_aload_n kX12_whichOf_10 rfl ?_
    refine zt_iload_n kX12_whichOf_11 rfl ?_
    refine zt_cV (as := [zi x3]) kX12_whichOf_12 sRX12_133 rfl (by decide) rfl (by simp) rfl (sX12_isThere _  ) (fun r h0 hq => ?_)
    obtain ⟨rfl, hh⟩ := hq
    replace hh := hh.symm
    subst hh
    refine zt_istore (L' := [zr 5 0, zi x1, zi x2, zi x3, zi (zb (hasI (h.1 30 0 0) x3)), zu]) kX12_whichOf_15 (by decide) rfl ?_
    refine zt_iconst (v := 0) kX12_whichOf_17 rfl ?_
    refine zt_istore (L' := [zr 5 0, zi x1, zi x2, zi x3, zi (zb (hasI (h.1 30 0 0) x3)), zi 0]) kX12_whichOf_18 (by decide) rfl ?_
    exact H

set_option maxRecDepth 10000 in
theorem wX12_whichOf_20 {G : ZG} {d : Nat} {h : ZH} {Q : Option ZV → ZH → Prop} {x1 : Int32} {x2 : Int32} {x3 : Int32} {x4 : Int32} {x5 : Int32} 
  (H : vp_in x1 8 ∧ ((h.1 42 0 x1.toNatClampNeg) ≤ x5 → (x4 = 0 → zT G (d + 8) mX12_whichOf 4 [zr 5 0, zi x1, zi (x2 ||| 0), zi (x3 + 1), zu, zu] [] h Q) ∧ (¬ x4 = 0 → zT G (d + 8) mX12_whichOf 4 [zr 5 0, zi x1, zi (x2 ||| ((1 : Int32) <<< (x3 &&& 31))), zi (x3 + 1), zu, zu] [] h Q)) ∧ (¬ (h.1 42 0 x1.toNatClampNeg) ≤ x5 → (x4 = 0 → (x4 = 0 → zT G (d + 8) mX12_whichOf 4 [zr 5 0, zi x1, zi (x2 ||| 0), zi (x3 + 1), zu, zu] [] h Q) ∧ (¬ x4 = 0 → zT G (d + 8) mX12_whichOf 4 [zr 5 0, zi x1, zi (x2 ||| ((1 : Int32) <<< (x3 &&& 31))), zi (x3 + 1), zu, zu] [] h Q)) ∧ (¬ x4 = 0 → vp_in ((100 * x1) + x5) 800 ∧ zC G (d + 7) mX12_noteWithout [zr 5 0, zi (h.1 43 0 ((100 * x1) + x5).toNatClampNeg), zi x3] h (fun r2 h1 => ∃ y3 : Int32, r2 = some (zi y3) ∧ vp_in (((100 * x1) + x5) + 1) 800 ∧ (¬ y3 = (h1.1 43 0 (((100 * x1) + x5) + 1).toNatClampNeg) → zT G (d + 8) mX12_whichOf 20 [zr 5 0, zi x1, zi x2, zi x3, zi 0, zi (x5 + 2)] [] h1 Q) ∧ (y3 = (h1.1 43 0 (((100 * x1) + x5) + 1).toNatClampNeg) → zT G (d + 8) mX12_whichOf 20 [zr 5 0, zi x1, zi x2, zi x3, zi 1, zi (x5 + 2)] [] h1 Q))))) :
  zT G (d + 8) mX12_whichOf 20 [zr 5 0, zi x1, zi x2, zi x3, zi x4, zi x5] [] h Q := by
  refine zt_iload kX12_whichOf_20 rfl ?_
  refine zt_aload_n kX12_whichOf_22 rfl ?_
  refine zt_get (v := zr 42 0) kX12_whichOf_23 fRX12_47 rfl (by decide) rfl ?_
  refine zt_iload_n kX12_whichOf_26 rfl ?_
  obtain ⟨hv, H⟩ := H
  refine zt_iald kX12_whichOf_27 rfl (by decide) hv ?_
  refine zt_icmp_ge kX12_whichOf_28 (fun c => ?_) (fun c => ?_)
  · replace H := H.1 c
    refine zt_iload_n kX12_whichOf_83 rfl ?_
    refine zt_iload kX12_whichOf_84 rfl ?_
    refine zt_if_eq kX12_whichOf_86 (fun c => ?_) (fun c => ?_)
    · replace H := H.1 c
      refine zt_iconst (v := 0) kX12_whichOf_95 rfl ?_
      refine zt_ior kX12_whichOf_96 ?_
      refine zt_istore_n (L' := [zr 5 0, zi x1, zi (x2 ||| 0), zi x3, zi x4, zi x5]) kX12_whichOf_97 (by decide) rfl ?_
      refine zt_iinc (v := (x3 + 1)) (L' := [zr 5 0, zi x1, zi (x2 ||| 0), zi (x3 + 1), zi x4, zi x5]) kX12_whichOf_98 rfl rfl (by decide) rfl ?_
      refine zt_goto kX12_whichOf_101 ?_
      exact zt_sub [zr 5 0, zi x1, zi (x2 ||| 0), zi (x3 + 1), zu, zu] ⟨rfl, ⟨rfl, ⟨rfl, ⟨rfl, trivial⟩⟩⟩⟩ H
    · replace H := H.2 c
      refine zt_iconst (v := 1) kX12_whichOf_89 rfl ?_
      refine zt_iload_n kX12_whichOf_90 rfl ?_
      refine zt_ishl kX12_whichOf_91 ?_
      refine zt_goto kX12_whichOf_92 ?_
      refine zt_ior kX12_whichOf_96 ?_
      refine zt_istore_n (L' := [zr 5 0, zi x1, zi (x2 ||| ((1 : Int32) <<< (x3 &&& 31))), zi x3, zi x4, zi x5]) kX12_whichOf_97 (by decide) rfl ?_
      refine zt_iinc (v := (x3 + 1)) (L' := [zr 5 0, zi x1, zi (x2 ||| ((1 : Int32) <<< (x3 &&& 31))), zi (x3 + 1), zi x4, zi x5]) kX12_whichOf_98 rfl rfl (by decide) rfl ?_
      refine zt_goto kX12_whichOf_101 ?_
      exact zt_sub [zr 5 0, zi x1, zi (x2 ||| ((1 : Int32) <<< (x3 &&& 31))), zi (x3 + 1), zu, zu] ⟨rfl, ⟨rfl, ⟨rfl, ⟨rfl, trivial⟩⟩⟩⟩ H
  · replace H := H.2 c
    refine zt_iload kX12_whichOf_31 rfl ?_
    refine zt_if_eq kX12_whichOf_33 (fun c => ?_) (fun c => ?_)
    · replace H := H.1 c
      refine zt_iload_n kX12_whichOf_83 rfl ?_
      refine zt_iload kX12_whichOf_84 rfl ?_
      refine zt_if_eq kX12_whichOf_86 (fun c => ?_) (fun c => ?_)
      · replace H := H.1 c
        refine zt_iconst (v := 0) kX12_whichOf_95 rfl ?_
        refine zt_ior kX12_whichOf_96 ?_
        refine zt_istore_n (L' := [zr 5 0, zi x1, zi (x2 ||| 0), zi x3, zi x4, zi x5]) kX12_whichOf_97 (by decide) rfl ?_
        refine zt_iinc (v := (x3 + 1)) (L' := [zr 5 0, zi x1, zi (x2 ||| 0), zi (x3 + 1), zi x4, zi x5]) kX12_whichOf_98 rfl rfl (by decide) rfl ?_
        refine zt_goto kX12_whichOf_101 ?_
        exact zt_sub [zr 5 0, zi x1, zi (x2 ||| 0), zi (x3 + 1), zu, zu] ⟨rfl, ⟨rfl, ⟨rfl, ⟨rfl, trivial⟩⟩⟩⟩ H
      · replace H := H.2 c
        refine zt_iconst (v := 1) kX12_whichOf_89 rfl ?_
        refine zt_iload_n kX12_whichOf_90 rfl ?_
        refine zt_ishl kX12_whichOf_91 ?_
        refine zt_goto kX12_whichOf_92 ?_
        refine zt_ior kX12_whichOf_96 ?_
        refine zt_istore_n (L' := [zr 5 0, zi x1, zi (x2 ||| ((1 : Int32) <<< (x3 &&& 31))), zi x3, zi x4, zi x5]) kX12_whichOf_97 (by decide) rfl ?_
        refine zt_iinc (v := (x3 + 1)) (L' := [zr 5 0, zi x1, zi (x2 ||| ((1 : Int32) <<< (x3 &&& 31))), zi (x3 + 1), zi x4, zi x5]) kX12_whichOf_98 rfl rfl (by decide) rfl ?_
        refine zt_goto kX12_whichOf_101 ?_
        exact zt_sub [zr 5 0, zi x1, zi (x2 ||| ((1 : Int32) <<< (x3 &&& 31))), zi (x3 + 1), zu, zu] ⟨rfl, ⟨rfl, ⟨rfl, ⟨rfl, trivial⟩⟩⟩⟩ H
    · replace H := H.2 c
      refine zt_aload_n kX12_whichOf_36 rfl ?_
      refine zt_aload_n kX12_whichOf_37 rfl ?_
      refine zt_get (v := zr 43 0) kX12_whichOf_38 fRX12_50 rfl (by decide) rfl ?_
      refine zt_bipush (v := 100) kX12_whichOf_41 rfl ?_
      refine zt_iload_n kX12_whichOf_43 rfl ?_
      refine zt_imul kX12_whichOf_44 ?_
      refine zt_iload kX12_whichOf_45 rfl ?_
      refine zt_iadd kX12_whichOf_47 ?_
      obtain ⟨hv, H⟩ := H
      refine zt_iald kX12_whichOf_48 rfl (by decide) hv ?_
      refine zt_iload_n kX12_whichOf_49 rfl ?_
      refine zt_cV (as := [zi (h.1 43 0 ((100 * x1) + x5).toNatClampNeg), zi x3]) kX12_whichOf_50 sRX12_190 rfl (by decide) rfl (by simp) rfl H (fun r2 h1 H => ?_)
      obtain ⟨y3, rfl, H⟩ := H
      refine zt_aload_n kX12_whichOf_53 rfl ?_
      refine zt_get (v := zr 43 0) kX12_whichOf_54 fRX12_50 rfl (by decide) rfl ?_
      refine zt_bipush (v := 100) kX12_whichOf_57 rfl ?_
      refine zt_iload_n kX12_whichOf_59 rfl ?_
      refine zt_imul kX12_whichOf_60 ?_
      refine zt_iload kX12_whichOf_61 rfl ?_
      refine zt_iadd kX12_whichOf_63 ?_
      refine zt_iconst (v := 1) kX12_whichOf_64 rfl ?_
      refine zt_iadd kX12_whichOf_65 ?_
      obtain ⟨hv, H⟩ := H
      refine zt_iald kX12_whichOf_66 rfl (by decide) hv ?_
      refine zt_icmp_ne kX12_whichOf_67 (fun c => ?_) (fun c => ?_)
      · replace H := H.1 c
        refine zt_iconst (v := 0) kX12_whichOf_74 rfl ?_
        refine zt_istore (L' := [zr 5 0, zi x1, zi x2, zi x3, zi 0, zi x5]) kX12_whichOf_75 (by decide) rfl ?_
        refine zt_iinc (v := (x5 + 2)) (L' := [zr 5 0, zi x1, zi x2, zi x3, zi 0, zi (x5 + 2)]) kX12_whichOf_77 rfl rfl (by decide) rfl ?_
        refine zt_goto kX12_whichOf_80 ?_
        exact H
      · replace H := H.2 c
        refine zt_iconst (v := 1) kX12_whichOf_70 rfl ?_
        refine zt_goto kX12_whichOf_71 ?_
        refine zt_istore (L' := [zr 5 0, zi x1, zi x2, zi x3, zi 1, zi x5]) kX12_whichOf_75 (by decide) rfl ?_
        refine zt_iinc (v := (x5 + 2)) (L' := [zr 5 0, zi x1, zi x2, zi x3, zi 1, zi (x5 + 2)]) kX12_whichOf_77 rfl rfl (by decide) rfl ?_
        refine zt_goto kX12_whichOf_80 ?_
        exact H

theorem kX12_which_0 : zD cX12_which 0 1 (.iload_n 2) 1 := by decide +kernel
theorem kX12_which_1 : zD cX12_which 1 2 (.iconst 0) 1 := by decide +kernel
theorem kX12_which_2 : zD cX12_which 2 3 (.iconst 1) 1 := by decide +kernel
theorem kX12_which_3 : zD cX12_which 3 6 (.invokestatic 53) 3 := by decide +kernel
theorem kX12_which_6 : zB cX12_which 6 9 11 (.ifCond .ne 5) 5 := by decide +kernel
theorem kX12_which_9 : zD cX12_which 9 10 (.iconst (-1)) 1 := by decide +kernel
theorem kX12_which_10 : zD cX12_which 10 11 (.ireturn) 1 := by decide +kernel
theorem kX12_which_11 : zD cX12_which 11 12 (.aload_n 0) 1 := by decide +kernel
theorem kX12_which_12 : zD cX12_which 12 13 (.iload_n 1) 1 := by decide +kernel
theorem kX12_which_13 : zD cX12_which 13 16 (.invokevirtual 193) 3 := by decide +kernel
theorem kX12_which_16 : zD cX12_which 16 17 (.istore_n 3) 1 := by decide +kernel
theorem kX12_which_17 : zD cX12_which 17 18 (.iload_n 3) 1 := by decide +kernel
theorem kX12_which_18 : zB cX12_which 18 21 23 (.ifCond .eq 5) 5 := by decide +kernel
theorem kX12_which_21 : zD cX12_which 21 22 (.iload_n 3) 1 := by decide +kernel
theorem kX12_which_22 : zD cX12_which 22 23 (.ireturn) 1 := by decide +kernel
theorem kX12_which_23 : zD cX12_which 23 24 (.iload_n 2) 1 := by decide +kernel
theorem kX12_which_24 : zB cX12_which 24 27 35 (.ifCond .ne 11) 11 := by decide +kernel
theorem kX12_which_27 : zD cX12_which 27 28 (.aload_n 0) 1 := by decide +kernel
theorem kX12_which_28 : zD cX12_which 28 29 (.iload_n 1) 1 := by decide +kernel
theorem kX12_which_29 : zD cX12_which 29 32 (.invokevirtual 196) 3 := by decide +kernel
theorem kX12_which_32 : zB cX12_which 32 35 43 (.goto 11) 11 := by decide +kernel
theorem kX12_which_35 : zD cX12_which 35 36 (.aload_n 0) 1 := by decide +kernel
theorem kX12_which_36 : zD cX12_which 36 37 (.iload_n 1) 1 := by decide +kernel
theorem kX12_which_37 : zD cX12_which 37 40 (.invokevirtual 196) 3 := by decide +kernel
theorem kX12_which_40 : zD cX12_which 40 43 (.invokestatic 107) 3 := by decide +kernel
theorem kX12_which_43 : zD cX12_which 43 44 (.ireturn) 1 := by decide +kernel
set_option maxRecDepth 10000 in
theorem wX12_which_0 {G : ZG} {d : Nat} {h : ZH} {Q : Option ZV → ZH → Prop} {x1 : Int32} {x2 : Int32} 
  (H : (((0 : Int32) ≤ x2 ∧ x2 ≤ (1 : Int32)) → zC G (d + 8) mX12_wrongPairs [zr 5 0, zi x1] h (fun r2 h1 => ∃ y3 : Int32, r2 = some (zi y3) ∧ (y3 = 0 → (¬ x2 = 0 → zC G (d + 8) mX12_whichOf [zr 5 0, zi x1] h1 (fun r5 h4 => ∃ y6 : Int32, r5 = some (zi y6) ∧ Q (some (zi (bitsI y6))) h4)) ∧ (x2 = 0 → zC G (d + 8) mX12_whichOf [zr 5 0, zi x1] h1 (fun r8 h7 => ∃ y9 : Int32, r8 = some (zi y9) ∧ Q (some (zi y9)) h7))) ∧ (¬ y3 = 0 → Q (some (zi y3)) h1))) ∧ (¬ ((0 : Int32) ≤ x2 ∧ x2 ≤ (1 : Int32)) → Q (some (zi (-1))) h)) :
  zT G (d + 9) mX12_which 0 [zr 5 0, zi x1, zi x2, zu] [] h Q := by
  refine zt_iload_n kX12_which_0 rfl ?_
  refine zt_iconst (v := 0) kX12_which_1 rfl ?_
  refine zt_iconst (v := 1) kX12_which_2 rfl ?_
  refine zt_cS (as := [zi x2, zi 0, zi 1]) kX12_which_3 sRX12_53 rfl (by simp) rfl (sX12_isIn _  ) (fun r h0 hq => ?_)
  obtain ⟨rfl, hh⟩ := hq
  replace hh := hh.symm
  subst hh
  refine zt_ifb_ne kX12_which_6 (fun c => ?_) (fun c => ?_)
  · replace H := H.1 c
    refine zt_aload_n kX12_which_11 rfl ?_
    refine zt_iload_n kX12_which_12 rfl ?_
    refine zt_cV (as := [zi x1]) kX12_which_13 sRX12_193 rfl (by decide) rfl (by simp) rfl H (fun r2 h1 H => ?_)
    obtain ⟨y3, rfl, H⟩ := H
    refine zt_istore_n (L' := [zr 5 0, zi x1, zi x2, zi y3]) kX12_which_16 (by decide) rfl ?_
    refine zt_iload_n kX12_which_17 rfl ?_
    refine zt_if_eq kX12_which_18 (fun c => ?_) (fun c => ?_)
    · replace H := H.1 c
      refine zt_iload_n kX12_which_23 rfl ?_
      refine zt_if_ne kX12_which_24 (fun c => ?_) (fun c => ?_)
      · replace H := H.1 c
        refine zt_aload_n kX12_which_35 rfl ?_
        refine zt_iload_n kX12_which_36 rfl ?_
        refine zt_cV (as := [zi x1]) kX12_which_37 sRX12_196 rfl (by decide) rfl (by simp) rfl H (fun r5 h4 H => ?_)
        obtain ⟨y6, rfl, H⟩ := H
        refine zt_cS (as := [zi y6]) kX12_which_40 sRX12_107 rfl (by simp) rfl (sX12_bits _  ) (fun r h0 hq => ?_)
        obtain ⟨rfl, hh⟩ := hq
        replace hh := hh.symm
        subst hh
        exact zt_iret kX12_which_43 rfl H
      · replace H := H.2 c
        refine zt_aload_n kX12_which_27 rfl ?_
        refine zt_iload_n kX12_which_28 rfl ?_
        refine zt_cV (as := [zi x1]) kX12_which_29 sRX12_196 rfl (by decide) rfl (by simp) rfl H (fun r8 h7 H => ?_)
        obtain ⟨y9, rfl, H⟩ := H
        refine zt_goto kX12_which_32 ?_
        exact zt_iret kX12_which_43 rfl H
    · replace H := H.2 c
      refine zt_iload_n kX12_which_21 rfl ?_
      exact zt_iret kX12_which_22 rfl H
  · replace H := H.2 c
    refine zt_iconst (v := (-1)) kX12_which_9 rfl ?_
    exact zt_iret kX12_which_10 rfl H

theorem kX12_kindsBy_0 : zD cX12_kindsBy 0 1 (.lconst 0) 1 := by decide +kernel
theorem kX12_kindsBy_1 : zD cX12_kindsBy 1 2 (.lstore_n 3) 1 := by decide +kernel
theorem kX12_kindsBy_2 : zD cX12_kindsBy 2 3 (.iconst 0) 1 := by decide +kernel
theorem kX12_kindsBy_3 : zD cX12_kindsBy 3 5 (.istore 5) 2 := by decide +kernel
theorem kX12_kindsBy_5 : zD cX12_kindsBy 5 7 (.iload 5) 2 := by decide +kernel
theorem kX12_kindsBy_7 : zD cX12_kindsBy 7 9 (.bipush 12) 2 := by decide +kernel
theorem kX12_kindsBy_9 : zB cX12_kindsBy 9 12 43 (.if_icmp .ge 34) 34 := by decide +kernel
theorem kX12_kindsBy_12 : zD cX12_kindsBy 12 13 (.lload_n 3) 1 := by decide +kernel
theorem kX12_kindsBy_13 : zD cX12_kindsBy 13 14 (.iload_n 2) 1 := by decide +kernel
theorem kX12_kindsBy_14 : zD cX12_kindsBy 14 16 (.iload 5) 2 := by decide +kernel
theorem kX12_kindsBy_16 : zD cX12_kindsBy 16 19 (.invokestatic 57) 3 := by decide +kernel
theorem kX12_kindsBy_19 : zB cX12_kindsBy 19 22 34 (.ifCond .eq 15) 15 := by decide +kernel
theorem kX12_kindsBy_22 : zD cX12_kindsBy 22 23 (.lconst 1) 1 := by decide +kernel
theorem kX12_kindsBy_23 : zD cX12_kindsBy 23 24 (.aload_n 0) 1 := by decide +kernel
theorem kX12_kindsBy_24 : zD cX12_kindsBy 24 25 (.iload_n 1) 1 := by decide +kernel
theorem kX12_kindsBy_25 : zD cX12_kindsBy 25 27 (.iload 5) 2 := by decide +kernel
theorem kX12_kindsBy_27 : zD cX12_kindsBy 27 30 (.invokevirtual 190) 3 := by decide +kernel
theorem kX12_kindsBy_30 : zD cX12_kindsBy 30 31 (.lshl) 1 := by decide +kernel
theorem kX12_kindsBy_31 : zB cX12_kindsBy 31 34 35 (.goto 4) 4 := by decide +kernel
theorem kX12_kindsBy_34 : zD cX12_kindsBy 34 35 (.lconst 0) 1 := by decide +kernel
theorem kX12_kindsBy_35 : zD cX12_kindsBy 35 36 (.lor) 1 := by decide +kernel
theorem kX12_kindsBy_36 : zD cX12_kindsBy 36 37 (.lstore_n 3) 1 := by decide +kernel
theorem kX12_kindsBy_37 : zD cX12_kindsBy 37 40 (.iinc 5 1) 3 := by decide +kernel
theorem kX12_kindsBy_40 : zB cX12_kindsBy 40 43 5 (.goto (-35)) (-35) := by decide +kernel
theorem kX12_kindsBy_43 : zD cX12_kindsBy 43 44 (.iconst 0) 1 := by decide +kernel
theorem kX12_kindsBy_44 : zD cX12_kindsBy 44 46 (.istore 5) 2 := by decide +kernel
theorem kX12_kindsBy_46 : zD cX12_kindsBy 46 47 (.iconst 0) 1 := by decide +kernel
theorem kX12_kindsBy_47 : zD cX12_kindsBy 47 49 (.istore 6) 2 := by decide +kernel
theorem kX12_kindsBy_49 : zD cX12_kindsBy 49 51 (.iload 6) 2 := by decide +kernel
theorem kX12_kindsBy_51 : zD cX12_kindsBy 51 53 (.bipush 50) 2 := by decide +kernel
theorem kX12_kindsBy_53 : zB cX12_kindsBy 53 56 74 (.if_icmp .gt 21) 21 := by decide +kernel
theorem kX12_kindsBy_56 : zD cX12_kindsBy 56 58 (.iload 5) 2 := by decide +kernel
theorem kX12_kindsBy_58 : zD cX12_kindsBy 58 59 (.lload_n 3) 1 := by decide +kernel
theorem kX12_kindsBy_59 : zD cX12_kindsBy 59 61 (.iload 6) 2 := by decide +kernel
theorem kX12_kindsBy_61 : zD cX12_kindsBy 61 62 (.lshr) 1 := by decide +kernel
theorem kX12_kindsBy_62 : zD cX12_kindsBy 62 63 (.lconst 1) 1 := by decide +kernel
theorem kX12_kindsBy_63 : zD cX12_kindsBy 63 64 (.land) 1 := by decide +kernel
theorem kX12_kindsBy_64 : zD cX12_kindsBy 64 65 (.l2i) 1 := by decide +kernel
theorem kX12_kindsBy_65 : zD cX12_kindsBy 65 66 (.iadd) 1 := by decide +kernel
theorem kX12_kindsBy_66 : zD cX12_kindsBy 66 68 (.istore 5) 2 := by decide +kernel
theorem kX12_kindsBy_68 : zD cX12_kindsBy 68 71 (.iinc 6 1) 3 := by decide +kernel
theorem kX12_kindsBy_71 : zB cX12_kindsBy 71 74 49 (.goto (-22)) (-22) := by decide +kernel
theorem kX12_kindsBy_74 : zD cX12_kindsBy 74 76 (.iload 5) 2 := by decide +kernel
theorem kX12_kindsBy_76 : zD cX12_kindsBy 76 77 (.ireturn) 1 := by decide +kernel
set_option maxRecDepth 10000 in
theorem wX12_kindsBy_0 {G : ZG} {d : Nat} {h : ZH} {Q : Option ZV → ZH → Prop} {x1 : Int32} {x2 : Int32} 
  (H : zT G (d + 8) mX12_kindsBy 5 [zr 5 0, zi x1, zi x2, zl 0, zu, zi 0, zu] [] h Q) :
  zT G (d + 8) mX12_kindsBy 0 [zr 5 0, zi x1, zi x2, zu, zu, zu, zu] [] h Q := by
  refine zt_lconst (v := 0) kX12_kindsBy_0 rfl ?_
  refine zt_lstore_n (L' := [zr 5 0, zi x1, zi x2, zl 0, zu, zu, zu]) kX12_kindsBy_1 (by decide) rfl ?_
  refine zt_iconst (v := 0) kX12_kindsBy_2 rfl ?_
  refine zt_istore (L' := [zr 5 0, zi x1, zi x2, zl 0, zu, zi 0, zu]) kX12_kindsBy_3 (by decide) rfl ?_
  exact H

set_option maxRecDepth 10000 in
theorem wX12_kindsBy_5 {G : ZG} {d : Nat} {h : ZH} {Q : Option ZV → ZH → Prop} {x1 : Int32} {x2 : Int32} {x3 : Int64} {x5 : Int32} 
  (H : (12 ≤ x5 → zT G (d + 8) mX12_kindsBy 49 [zr 5 0, zi x1, zi x2, zl x3, zu, zi 0, zi 0] [] h Q) ∧ (¬ 12 ≤ x5 → (¬ (hasI x2 x5) → zT G (d + 8) mX12_kindsBy 5 [zr 5 0, zi x1, zi x2, zl (x3 ||| 0), zu, zi (x5 + 1), zu] [] h Q) ∧ ((hasI x2 x5) → zC G (d + 7) mX12_noteWithout [zr 5 0, zi x1, zi x5] h (fun r2 h1 => ∃ y3 : Int32, r2 = some (zi y3) ∧ zT G (d + 8) mX12_kindsBy 5 [zr 5 0, zi x1, zi x2, zl (x3 ||| ((1 : Int64) <<< ((y3).toInt64 &&& 63))), zu, zi (x5 + 1), zu] [] h1 Q)))) :
  zT G (d + 8) mX12_kindsBy 5 [zr 5 0, zi x1, zi x2, zl x3, zu, zi x5, zu] [] h Q := by
  refine zt_iload kX12_kindsBy_5 rfl ?_
  refine zt_bipush (v := 12) kX12_kindsBy_7 rfl ?_
  refine zt_icmp_ge kX12_kindsBy_9 (fun c => ?_) (fun c => ?_)
  · replace H := H.1 c
    refine zt_iconst (v := 0) kX12_kindsBy_43 rfl ?_
    refine zt_istore (L' := [zr 5 0, zi x1, zi x2, zl x3, zu, zi 0, zu]) kX12_kindsBy_44 (by decide) rfl ?_
    refine zt_iconst (v := 0) kX12_kindsBy_46 rfl ?_
    refine zt_istore (L' := [zr 5 0, zi x1, zi x2, zl x3, zu, zi 0, zi 0]) kX12_kindsBy_47 (by decide) rfl ?_
    exact H
  · replace H := H.2 c
    refine zt_lload_n kX12_kindsBy_12 rfl ?_
    refine zt_iload_n kX12_kindsBy_13 rfl ?_
    refine zt_iload kX12_kindsBy_14 rfl ?_
    refine zt_cS (as := [zi x2, zi x5]) kX12_kindsBy_16 sRX12_57 rfl (by simp) rfl (sX12_has _  ) (fun r h0 hq => ?_)
    obtain ⟨rfl, hh⟩ := hq
    replace hh := hh.symm
    subst hh
    refine zt_ifb_eq kX12_kindsBy_19 (fun c => ?_) (fun c => ?_)
    · replace H := H.1 c
      refine zt_lconst (v := 0) kX12_kindsBy_34 rfl ?_
      refine zt_lor kX12_kindsBy_35 ?_
      refine zt_lstore_n (L' := [zr 5 0, zi x1, zi x2, zl (x3 ||| 0), zu, zi x5, zu]) kX12_kindsBy_36 (by decide) rfl ?_
      refine zt_iinc (v := (x5 + 1)) (L' := [zr 5 0, zi x1, zi x2, zl (x3 ||| 0), zu, zi (x5 + 1), zu]) kX12_kindsBy_37 rfl rfl (by decide) rfl ?_
      refine zt_goto kX12_kindsBy_40 ?_
      exact H
    · replace H := H.2 c
      refine zt_lconst (v := 1) kX12_kindsBy_22 rfl ?_
      refine zt_aload_n kX12_kindsBy_23 rfl ?_
      refine zt_iload_n kX12_kindsBy_24 rfl ?_
      refine zt_iload kX12_kindsBy_25 rfl ?_
      refine zt_cV (as := [zi x1, zi x5]) kX12_kindsBy_27 sRX12_190 rfl (by decide) rfl (by simp) rfl H (fun r2 h1 H => ?_)
      obtain ⟨y3, rfl, H⟩ := H
      refine zt_lshl kX12_kindsBy_30 ?_
      refine zt_goto kX12_kindsBy_31 ?_
      refine zt_lor kX12_kindsBy_35 ?_
      refine zt_lstore_n (L' := [zr 5 0, zi x1, zi x2, zl (x3 ||| ((1 : Int64) <<< ((y3).toInt64 &&& 63))), zu, zi x5, zu]) kX12_kindsBy_36 (by decide) rfl ?_
      refine zt_iinc (v := (x5 + 1)) (L' := [zr 5 0, zi x1, zi x2, zl (x3 ||| ((1 : Int64) <<< ((y3).toInt64 &&& 63))), zu, zi (x5 + 1), zu]) kX12_kindsBy_37 rfl rfl (by decide) rfl ?_
      refine zt_goto kX12_kindsBy_40 ?_
      exact H

set_option maxRecDepth 10000 in
theorem wX12_kindsBy_49 {G : ZG} {d : Nat} {h : ZH} {Q : Option ZV → ZH → Prop} {x1 : Int32} {x2 : Int32} {x3 : Int64} {x5 : Int32} {x6 : Int32} 
  (H : (50 < x6 → Q (some (zi x5)) h) ∧ (¬ 50 < x6 → zT G (d + 8) mX12_kindsBy 49 [zr 5 0, zi x1, zi x2, zl x3, zu, zi (x5 + (((x3 >>> ((x6).toInt64 &&& 63)) &&& 1)).toInt32), zi (x6 + 1)] [] h Q)) :
  zT G (d + 8) mX12_kindsBy 49 [zr 5 0, zi x1, zi x2, zl x3, zu, zi x5, zi x6] [] h Q := by
  refine zt_iload kX12_kindsBy_49 rfl ?_
  refine zt_bipush (v := 50) kX12_kindsBy_51 rfl ?_
  refine zt_icmp_gt kX12_kindsBy_53 (fun c => ?_) (fun c => ?_)
  · replace H := H.1 c
    refine zt_iload kX12_kindsBy_74 rfl ?_
    exact zt_iret kX12_kindsBy_76 rfl H
  · replace H := H.2 c
    refine zt_iload kX12_kindsBy_56 rfl ?_
    refine zt_lload_n kX12_kindsBy_58 rfl ?_
    refine zt_iload kX12_kindsBy_59 rfl ?_
    refine zt_lshr kX12_kindsBy_61 ?_
    refine zt_lconst (v := 1) kX12_kindsBy_62 rfl ?_
    refine zt_land kX12_kindsBy_63 ?_
    refine zt_l2i kX12_kindsBy_64 ?_
    refine zt_iadd kX12_kindsBy_65 ?_
    refine zt_istore (L' := [zr 5 0, zi x1, zi x2, zl x3, zu, zi (x5 + (((x3 >>> ((x6).toInt64 &&& 63)) &&& 1)).toInt32), zi x6]) kX12_kindsBy_66 (by decide) rfl ?_
    refine zt_iinc (v := (x6 + 1)) (L' := [zr 5 0, zi x1, zi x2, zl x3, zu, zi (x5 + (((x3 >>> ((x6).toInt64 &&& 63)) &&& 1)).toInt32), zi (x6 + 1)]) kX12_kindsBy_68 rfl rfl (by decide) rfl ?_
    refine zt_goto kX12_kindsBy_71 ?_
    exact H

theorem kX12_tapNext_0 : zD cX12_tapNext 0 1 (.aload_n 0) 1 := by decide +kernel
theorem kX12_tapNext_1 : zD cX12_tapNext 1 2 (.iload_n 1) 1 := by decide +kernel
theorem kX12_tapNext_2 : zD cX12_tapNext 2 5 (.invokevirtual 193) 3 := by decide +kernel
theorem kX12_tapNext_5 : zD cX12_tapNext 5 6 (.istore_n 2) 1 := by decide +kernel
theorem kX12_tapNext_6 : zD cX12_tapNext 6 7 (.iload_n 2) 1 := by decide +kernel
theorem kX12_tapNext_7 : zB cX12_tapNext 7 10 12 (.ifCond .eq 5) 5 := by decide +kernel
theorem kX12_tapNext_10 : zD cX12_tapNext 10 11 (.iload_n 2) 1 := by decide +kernel
theorem kX12_tapNext_11 : zD cX12_tapNext 11 12 (.ireturn) 1 := by decide +kernel
theorem kX12_tapNext_12 : zD cX12_tapNext 12 13 (.aload_n 0) 1 := by decide +kernel
theorem kX12_tapNext_13 : zD cX12_tapNext 13 14 (.iload_n 1) 1 := by decide +kernel
theorem kX12_tapNext_14 : zD cX12_tapNext 14 17 (.invokevirtual 196) 3 := by decide +kernel
theorem kX12_tapNext_17 : zD cX12_tapNext 17 18 (.istore_n 3) 1 := by decide +kernel
theorem kX12_tapNext_18 : zD cX12_tapNext 18 19 (.iload_n 3) 1 := by decide +kernel
theorem kX12_tapNext_19 : zD cX12_tapNext 19 22 (.invokestatic 107) 3 := by decide +kernel
theorem kX12_tapNext_22 : zD cX12_tapNext 22 23 (.iconst 2) 1 := by decide +kernel
theorem kX12_tapNext_23 : zB cX12_tapNext 23 26 29 (.if_icmp .ge 6) 6 := by decide +kernel
theorem kX12_tapNext_26 : zD cX12_tapNext 26 28 (.bipush (-4)) 2 := by decide +kernel
theorem kX12_tapNext_28 : zD cX12_tapNext 28 29 (.ireturn) 1 := by decide +kernel
theorem kX12_tapNext_29 : zD cX12_tapNext 29 30 (.iconst 0) 1 := by decide +kernel
theorem kX12_tapNext_30 : zD cX12_tapNext 30 32 (.istore 4) 2 := by decide +kernel
theorem kX12_tapNext_32 : zD cX12_tapNext 32 33 (.iconst 0) 1 := by decide +kernel
theorem kX12_tapNext_33 : zD cX12_tapNext 33 35 (.istore 5) 2 := by decide +kernel
theorem kX12_tapNext_35 : zD cX12_tapNext 35 36 (.iconst 0) 1 := by decide +kernel
theorem kX12_tapNext_36 : zD cX12_tapNext 36 38 (.istore 6) 2 := by decide +kernel
theorem kX12_tapNext_38 : zD cX12_tapNext 38 40 (.iload 6) 2 := by decide +kernel
theorem kX12_tapNext_40 : zD cX12_tapNext 40 42 (.bipush 12) 2 := by decide +kernel
theorem kX12_tapNext_42 : zB cX12_tapNext 42 45 78 (.if_icmp .ge 36) 36 := by decide +kernel
theorem kX12_tapNext_45 : zD cX12_tapNext 45 46 (.aload_n 0) 1 := by decide +kernel
theorem kX12_tapNext_46 : zD cX12_tapNext 46 48 (.iload 6) 2 := by decide +kernel
theorem kX12_tapNext_48 : zD cX12_tapNext 48 49 (.iload_n 3) 1 := by decide +kernel
theorem kX12_tapNext_49 : zD cX12_tapNext 49 52 (.invokevirtual 199) 3 := by decide +kernel
theorem kX12_tapNext_52 : zD cX12_tapNext 52 54 (.istore 7) 2 := by decide +kernel
theorem kX12_tapNext_54 : zD cX12_tapNext 54 56 (.iload 7) 2 := by decide +kernel
theorem kX12_tapNext_56 : zD cX12_tapNext 56 58 (.iload 5) 2 := by decide +kernel
theorem kX12_tapNext_58 : zB cX12_tapNext 58 61 64 (.if_icmp .gt 6) 6 := by decide +kernel
theorem kX12_tapNext_61 : zB cX12_tapNext 61 64 72 (.goto 11) 11 := by decide +kernel
theorem kX12_tapNext_64 : zD cX12_tapNext 64 66 (.iload 6) 2 := by decide +kernel
theorem kX12_tapNext_66 : zD cX12_tapNext 66 68 (.istore 4) 2 := by decide +kernel
theorem kX12_tapNext_68 : zD cX12_tapNext 68 70 (.iload 7) 2 := by decide +kernel
theorem kX12_tapNext_70 : zD cX12_tapNext 70 72 (.istore 5) 2 := by decide +kernel
theorem kX12_tapNext_72 : zD cX12_tapNext 72 75 (.iinc 6 1) 3 := by decide +kernel
theorem kX12_tapNext_75 : zB cX12_tapNext 75 78 38 (.goto (-37)) (-37) := by decide +kernel
theorem kX12_tapNext_78 : zD cX12_tapNext 78 80 (.iload 4) 2 := by decide +kernel
theorem kX12_tapNext_80 : zD cX12_tapNext 80 81 (.ireturn) 1 := by decide +kernel
set_option maxRecDepth 10000 in
theorem wX12_tapNext_0 {G : ZG} {d : Nat} {h : ZH} {Q : Option ZV → ZH → Prop} {x1 : Int32} 
  (H : zC G (d + 8) mX12_wrongPairs [zr 5 0, zi x1] h (fun r2 h1 => ∃ y3 : Int32, r2 = some (zi y3) ∧ (y3 = 0 → zC G (d + 8) mX12_whichOf [zr 5 0, zi x1] h1 (fun r5 h4 => ∃ y6 : Int32, r5 = some (zi y6) ∧ (2 ≤ (bitsI y6) → zT G (d + 9) mX12_tapNext 38 [zr 5 0, zi x1, zi y3, zi y6, zi 0, zi 0, zi 0, zu] [] h4 Q) ∧ (¬ 2 ≤ (bitsI y6) → Q (some (zi (-4))) h4))) ∧ (¬ y3 = 0 → Q (some (zi y3)) h1))) :
  zT G (d + 9) mX12_tapNext 0 [zr 5 0, zi x1, zu, zu, zu, zu, zu, zu] [] h Q := by
  refine zt_aload_n kX12_tapNext_0 rfl ?_
  refine zt_iload_n kX12_tapNext_1 rfl ?_
  refine zt_cV (as := [zi x1]) kX12_tapNext_2 sRX12_193 rfl (by decide) rfl (by simp) rfl H (fun r2 h1 H => ?_)
  obtain ⟨y3, rfl, H⟩ := H
  refine zt_istore_n (L' := [zr 5 0, zi x1, zi y3, zu, zu, zu, zu, zu]) kX12_tapNext_5 (by decide) rfl ?_
  refine zt_iload_n kX12_tapNext_6 rfl ?_
  refine zt_if_eq kX12_tapNext_7 (fun c => ?_) (fun c => ?_)
  · replace H := H.1 c
    refine zt_aload_n kX12_tapNext_12 rfl ?_
    refine zt_iload_n kX12_tapNext_13 rfl ?_
    refine zt_cV (as := [zi x1]) kX12_tapNext_14 sRX12_196 rfl (by decide) rfl (by simp) rfl H (fun r5 h4 H => ?_)
    obtain ⟨y6, rfl, H⟩ := H
    refine zt_istore_n (L' := [zr 5 0, zi x1, zi y3, zi y6, zu, zu, zu, zu]) kX12_tapNext_17 (by decide) rfl ?_
    refine zt_iload_n kX12_tapNext_18 rfl ?_
    refine zt_cS (as := [zi y6]) kX12_tapNext_19 sRX12_107 rfl (by simp) rfl (sX12_bits _  ) (fun r h0 hq => ?_)
    obtain ⟨rfl, hh⟩ := hq
    replace hh := hh.symm
    subst hh
    refine zt_iconst (v := 2) kX12_tapNext_22 rfl ?_
    refine zt_icmp_ge kX12_tapNext_23 (fun c => ?_) (fun c => ?_)
    · replace H := H.1 c
      refine zt_iconst (v := 0) kX12_tapNext_29 rfl ?_
      refine zt_istore (L' := [zr 5 0, zi x1, zi y3, zi y6, zi 0, zu, zu, zu]) kX12_tapNext_30 (by decide) rfl ?_
      refine zt_iconst (v := 0) kX12_tapNext_32 rfl ?_
      refine zt_istore (L' := [zr 5 0, zi x1, zi y3, zi y6, zi 0, zi 0, zu, zu]) kX12_tapNext_33 (by decide) rfl ?_
      refine zt_iconst (v := 0) kX12_tapNext_35 rfl ?_
      refine zt_istore (L' := [zr 5 0, zi x1, zi y3, zi y6, zi 0, zi 0, zi 0, zu]) kX12_tapNext_36 (by decide) rfl ?_
      exact H
    · replace H := H.2 c
      refine zt_bipush (v := (-4)) kX12_tapNext_26 rfl ?_
      exact zt_iret kX12_tapNext_28 rfl H
  · replace H := H.2 c
    refine zt_iload_n kX12_tapNext_10 rfl ?_
    exact zt_iret kX12_tapNext_11 rfl H

set_option maxRecDepth 10000 in
theorem wX12_tapNext_38 {G : ZG} {d : Nat} {h : ZH} {Q : Option ZV → ZH → Prop} {x1 : Int32} {x2 : Int32} {x3 : Int32} {x4 : Int32} {x5 : Int32} {x6 : Int32} 
  (H : (12 ≤ x6 → Q (some (zi x4)) h) ∧ (¬ 12 ≤ x6 → zC G (d + 8) mX12_kindsBy [zr 5 0, zi x6, zi x3] h (fun r2 h1 => ∃ y3 : Int32, r2 = some (zi y3) ∧ (x5 < y3 → zT G (d + 9) mX12_tapNext 38 [zr 5 0, zi x1, zi x2, zi x3, zi x6, zi y3, zi (x6 + 1), zu] [] h1 Q) ∧ (¬ x5 < y3 → zT G (d + 9) mX12_tapNext 38 [zr 5 0, zi x1, zi x2, zi x3, zi x4, zi x5, zi (x6 + 1), zu] [] h1 Q)))) :
  zT G (d + 9) mX12_tapNext 38 [zr 5 0, zi x1, zi x2, zi x3, zi x4, zi x5, zi x6, zu] [] h Q := by
  refine zt_iload kX12_tapNext_38 rfl ?_
  refine zt_bipush (v := 12) kX12_tapNext_40 rfl ?_
  refine zt_icmp_ge kX12_tapNext_42 (fun c => ?_) (fun c => ?_)
  · replace H := H.1 c
    refine zt_iload kX12_tapNext_78 rfl ?_
    exact zt_iret kX12_tapNext_80 rfl H
  · replace H := H.2 c
    refine zt_aload_n kX12_tapNext_45 rfl ?_
    refine zt_iload kX12_tapNext_46 rfl ?_
    refine zt_iload_n kX12_tapNext_48 rfl ?_
    refine zt_cV (as := [zi x6, zi x3]) kX12_tapNext_49 sRX12_199 rfl (by decide) rfl (by simp) rfl H (fun r2 h1 H => ?_)
    obtain ⟨y3, rfl, H⟩ := H
    refine zt_istore (L' := [zr 5 0, zi x1, zi x2, zi x3, zi x4, zi x5, zi x6, zi y3]) kX12_tapNext_52 (by decide) rfl ?_
    refine zt_iload kX12_tapNext_54 rfl ?_
    refine zt_iload kX12_tapNext_56 rfl ?_
    refine zt_icmp_gt kX12_tapNext_58 (fun c => ?_) (fun c => ?_)
    · replace H := H.1 c
      refine zt_iload kX12_tapNext_64 rfl ?_
      refine zt_istore (L' := [zr 5 0, zi x1, zi x2, zi x3, zi x6, zi x5, zi x6, zi y3]) kX12_tapNext_66 (by decide) rfl ?_
      refine zt_iload kX12_tapNext_68 rfl ?_
      refine zt_istore (L' := [zr 5 0, zi x1, zi x2, zi x3, zi x6, zi y3, zi x6, zi y3]) kX12_tapNext_70 (by decide) rfl ?_
      refine zt_iinc (v := (x6 + 1)) (L' := [zr 5 0, zi x1, zi x2, zi x3, zi x6, zi y3, zi (x6 + 1), zi y3]) kX12_tapNext_72 rfl rfl (by decide) rfl ?_
      refine zt_goto kX12_tapNext_75 ?_
      exact zt_sub [zr 5 0, zi x1, zi x2, zi x3, zi x6, zi y3, zi (x6 + 1), zu] ⟨rfl, ⟨rfl, ⟨rfl, ⟨rfl, ⟨rfl, ⟨rfl, ⟨rfl, trivial⟩⟩⟩⟩⟩⟩⟩ H
    · replace H := H.2 c
      refine zt_goto kX12_tapNext_61 ?_
      refine zt_iinc (v := (x6 + 1)) (L' := [zr 5 0, zi x1, zi x2, zi x3, zi x4, zi x5, zi (x6 + 1), zi y3]) kX12_tapNext_72 rfl rfl (by decide) rfl ?_
      refine zt_goto kX12_tapNext_75 ?_
      exact zt_sub [zr 5 0, zi x1, zi x2, zi x3, zi x4, zi x5, zi (x6 + 1), zu] ⟨rfl, ⟨rfl, ⟨rfl, ⟨rfl, ⟨rfl, ⟨rfl, ⟨rfl, trivial⟩⟩⟩⟩⟩⟩⟩ H

