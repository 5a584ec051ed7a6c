/-! ===== the bytecode of these methods, walked (by program): X12_here X12_readsNumber X12_readsStatement X12_isDone X12_hall X11_firstBadByte X11_doStatement X11_doStatements X11_hall ===== -/
theorem kX12_here_0 : zD cX12_here 0 1 (.aload_n 0) 1 := by decide +kernel
theorem kX12_here_1 : zD cX12_here 1 4 (.getfield 114) 3 := by decide +kernel
theorem kX12_here_4 : zD cX12_here 4 5 (.aload_n 0) 1 := by decide +kernel
theorem kX12_here_5 : zD cX12_here 5 8 (.getfield 117) 3 := by decide +kernel
theorem kX12_here_8 : zB cX12_here 8 11 32 (.if_icmp .ge 24) 24 := by decide +kernel
theorem kX12_here_11 : zD cX12_here 11 12 (.aload_n 0) 1 := by decide +kernel
theorem kX12_here_12 : zD cX12_here 12 15 (.getfield 50) 3 := by decide +kernel
theorem kX12_here_15 : zD cX12_here 15 16 (.aload_n 0) 1 := by decide +kernel
theorem kX12_here_16 : zD cX12_here 16 19 (.getfield 120) 3 := by decide +kernel
theorem kX12_here_19 : zD cX12_here 19 20 (.aload_n 0) 1 := by decide +kernel
theorem kX12_here_20 : zD cX12_here 20 23 (.getfield 114) 3 := by decide +kernel
theorem kX12_here_23 : zD cX12_here 23 24 (.iadd) 1 := by decide +kernel
theorem kX12_here_24 : zD cX12_here 24 25 (.iaload) 1 := by decide +kernel
theorem kX12_here_25 : zD cX12_here 25 28 (.sipush 255) 3 := by decide +kernel
theorem kX12_here_28 : zD cX12_here 28 29 (.iand) 1 := by decide +kernel
theorem kX12_here_29 : zB cX12_here 29 32 33 (.goto 4) 4 := by decide +kernel
theorem kX12_here_32 : zD cX12_here 32 33 (.iconst (-1)) 1 := by decide +kernel
theorem kX12_here_33 : zD cX12_here 33 34 (.ireturn) 1 := by decide +kernel
set_option maxRecDepth 10000 in
theorem wX12_here_0 {G : ZG} {d : Nat} {h : ZH} {Q : Option ZV → ZH → Prop}  
  (H : ((h.1 5 0 8) ≤ (h.1 5 0 6) → Q (some (zi (-1))) h) ∧ (¬ (h.1 5 0 8) ≤ (h.1 5 0 6) → vp_in ((h.1 5 0 7) + (h.1 5 0 6)) 800 ∧ Q (some (zi ((h.1 43 0 ((h.1 5 0 7) + (h.1 5 0 6)).toNatClampNeg) &&& 255))) h)) :
  zT G (d + 1) mX12_here 0 [zr 5 0] [] h Q := by
  refine zt_aload_n kX12_here_0 rfl ?_
  refine zt_get (v := zi (h.1 5 0 6)) kX12_here_1 fRX12_114 rfl (by decide) rfl ?_
  refine zt_aload_n kX12_here_4 rfl ?_
  refine zt_get (v := zi (h.1 5 0 8)) kX12_here_5 fRX12_117 rfl (by decide) rfl ?_
  refine zt_icmp_ge kX12_here_8 (fun c => ?_) (fun c => ?_)
  · replace H := H.1 c
    refine zt_iconst (v := (-1)) kX12_here_32 rfl ?_
    exact zt_iret kX12_here_33 rfl H
  · replace H := H.2 c
    refine zt_aload_n kX12_here_11 rfl ?_
    refine zt_get (v := zr 43 0) kX12_here_12 fRX12_50 rfl (by decide) rfl ?_
    refine zt_aload_n kX12_here_15 rfl ?_
    refine zt_get (v := zi (h.1 5 0 7)) kX12_here_16 fRX12_120 rfl (by decide) rfl ?_
    refine zt_aload_n kX12_here_19 rfl ?_
    refine zt_get (v := zi (h.1 5 0 6)) kX12_here_20 fRX12_114 rfl (by decide) rfl ?_
    refine zt_iadd kX12_here_23 ?_
    obtain ⟨hv, H⟩ := H
    refine zt_iald kX12_here_24 rfl (by decide) hv ?_
    refine zt_sipush (v := 255) kX12_here_25 rfl ?_
    refine zt_iand kX12_here_28 ?_
    refine zt_goto kX12_here_29 ?_
    exact zt_iret kX12_here_33 rfl H

theorem kX12_readsNumber_0 : zD cX12_readsNumber 0 1 (.aload_n 0) 1 := by decide +kernel
theorem kX12_readsNumber_1 : zD cX12_readsNumber 1 4 (.getfield 22) 3 := by decide +kernel
theorem kX12_readsNumber_4 : zD cX12_readsNumber 4 5 (.iload_n 1) 1 := by decide +kernel
theorem kX12_readsNumber_5 : zD cX12_readsNumber 5 6 (.iconst 0) 1 := by decide +kernel
theorem kX12_readsNumber_6 : zD cX12_readsNumber 6 7 (.iastore) 1 := by decide +kernel
theorem kX12_readsNumber_7 : zD cX12_readsNumber 7 8 (.iconst 0) 1 := by decide +kernel
theorem kX12_readsNumber_8 : zD cX12_readsNumber 8 9 (.istore_n 3) 1 := by decide +kernel
theorem kX12_readsNumber_9 : zD cX12_readsNumber 9 10 (.iload_n 3) 1 := by decide +kernel
theorem kX12_readsNumber_10 : zD cX12_readsNumber 10 11 (.iload_n 2) 1 := by decide +kernel
theorem kX12_readsNumber_11 : zB cX12_readsNumber 11 14 69 (.if_icmp .ge 58) 58 := by decide +kernel
theorem kX12_readsNumber_14 : zD cX12_readsNumber 14 15 (.aload_n 0) 1 := by decide +kernel
theorem kX12_readsNumber_15 : zD cX12_readsNumber 15 18 (.invokevirtual 123) 3 := by decide +kernel
theorem kX12_readsNumber_18 : zD cX12_readsNumber 18 20 (.bipush 48) 2 := by decide +kernel
theorem kX12_readsNumber_20 : zD cX12_readsNumber 20 22 (.bipush 57) 2 := by decide +kernel
theorem kX12_readsNumber_22 : zD cX12_readsNumber 22 25 (.invokestatic 53) 3 := by decide +kernel
theorem kX12_readsNumber_25 : zB cX12_readsNumber 25 28 30 (.ifCond .ne 5) 5 := by decide +kernel
theorem kX12_readsNumber_28 : zD cX12_readsNumber 28 29 (.iconst 0) 1 := by decide +kernel
theorem kX12_readsNumber_29 : zD cX12_readsNumber 29 30 (.ireturn) 1 := by decide +kernel
theorem kX12_readsNumber_30 : zD cX12_readsNumber 30 31 (.aload_n 0) 1 := by decide +kernel
theorem kX12_readsNumber_31 : zD cX12_readsNumber 31 34 (.getfield 22) 3 := by decide +kernel
theorem kX12_readsNumber_34 : zD cX12_readsNumber 34 35 (.iload_n 1) 1 := by decide +kernel
theorem kX12_readsNumber_35 : zD cX12_readsNumber 35 37 (.bipush 10) 2 := by decide +kernel
theorem kX12_readsNumber_37 : zD cX12_readsNumber 37 38 (.aload_n 0) 1 := by decide +kernel
theorem kX12_readsNumber_38 : zD cX12_readsNumber 38 41 (.getfield 22) 3 := by decide +kernel
theorem kX12_readsNumber_41 : zD cX12_readsNumber 41 42 (.iload_n 1) 1 := by decide +kernel
theorem kX12_readsNumber_42 : zD cX12_readsNumber 42 43 (.iaload) 1 := by decide +kernel
theorem kX12_readsNumber_43 : zD cX12_readsNumber 43 44 (.imul) 1 := by decide +kernel
theorem kX12_readsNumber_44 : zD cX12_readsNumber 44 45 (.aload_n 0) 1 := by decide +kernel
theorem kX12_readsNumber_45 : zD cX12_readsNumber 45 48 (.invokevirtual 123) 3 := by decide +kernel
theorem kX12_readsNumber_48 : zD cX12_readsNumber 48 49 (.iadd) 1 := by decide +kernel
theorem kX12_readsNumber_49 : zD cX12_readsNumber 49 51 (.bipush 48) 2 := by decide +kernel
theorem kX12_readsNumber_51 : zD cX12_readsNumber 51 52 (.isub) 1 := by decide +kernel
theorem kX12_readsNumber_52 : zD cX12_readsNumber 52 53 (.iastore) 1 := by decide +kernel
theorem kX12_readsNumber_53 : zD cX12_readsNumber 53 54 (.aload_n 0) 1 := by decide +kernel
theorem kX12_readsNumber_54 : zD cX12_readsNumber 54 55 (.dup) 1 := by decide +kernel
theorem kX12_readsNumber_55 : zD cX12_readsNumber 55 58 (.getfield 114) 3 := by decide +kernel
theorem kX12_readsNumber_58 : zD cX12_readsNumber 58 59 (.iconst 1) 1 := by decide +kernel
theorem kX12_readsNumber_59 : zD cX12_readsNumber 59 60 (.iadd) 1 := by decide +kernel
theorem kX12_readsNumber_60 : zD cX12_readsNumber 60 63 (.putfield 114) 3 := by decide +kernel
theorem kX12_readsNumber_63 : zD cX12_readsNumber 63 66 (.iinc 3 1) 3 := by decide +kernel
theorem kX12_readsNumber_66 : zB cX12_readsNumber 66 69 9 (.goto (-57)) (-57) := by decide +kernel
theorem kX12_readsNumber_69 : zD cX12_readsNumber 69 70 (.iconst 1) 1 := by decide +kernel
theorem kX12_readsNumber_70 : zD cX12_readsNumber 70 71 (.ireturn) 1 := by decide +kernel
set_option maxRecDepth 10000 in
theorem wX12_readsNumber_0 {G : ZG} {d : Nat} {h : ZH} {Q : Option ZV → ZH → Prop} {x1 : Int32} {x2 : Int32} 
  (H : vp_in x1 3 ∧ (∀ h1 : ZH, h1 = zs1 h 34 0 x1.toNatClampNeg 0 → zT G (d + 2) mX12_readsNumber 9 [zr 5 0, zi x1, zi x2, zi 0] [] h1 Q)) :
  zT G (d + 2) mX12_readsNumber 0 [zr 5 0, zi x1, zi x2, zu] [] h Q := by
  refine zt_aload_n kX12_readsNumber_0 rfl ?_
  refine zt_get (v := zr 34 0) kX12_readsNumber_1 fRX12_22 rfl (by decide) rfl ?_
  refine zt_iload_n kX12_readsNumber_4 rfl ?_
  refine zt_iconst (v := 0) kX12_readsNumber_5 rfl ?_
  obtain ⟨hv, H⟩ := H
  refine zt_iast kX12_readsNumber_6 rfl (by decide) hv ?_
  refine zt_heap (fun h1 eh1 => ?_)
  replace H := H h1 eh1
  refine zt_iconst (v := 0) kX12_readsNumber_7 rfl ?_
  refine zt_istore_n (L' := [zr 5 0, zi x1, zi x2, zi 0]) kX12_readsNumber_8 (by decide) rfl ?_
  exact H

set_option maxRecDepth 10000 in
theorem wX12_readsNumber_9 {G : ZG} {d : Nat} {h : ZH} {Q : Option ZV → ZH → Prop} {x1 : Int32} {x2 : Int32} {x3 : Int32} 
  (H : (x2 ≤ x3 → Q (some (zi 1)) h) ∧ (¬ x2 ≤ x3 → zC G (d + 1) mX12_here [zr 5 0] h (fun r2 h1 => ∃ y3 : Int32, r2 = some (zi y3) ∧ (((48 : Int32) ≤ y3 ∧ y3 ≤ (57 : Int32)) → vp_in x1 3 ∧ zC G (d + 1) mX12_here [zr 5 0] h1 (fun r5 h4 => ∃ y6 : Int32, r5 = some (zi y6) ∧ vp_in x1 3 ∧ (∀ h7 : ZH, h7 = zs1 h4 34 0 x1.toNatClampNeg (((10 * (h1.1 34 0 x1.toNatClampNeg)) + y6) - 48) → ∀ h8 : ZH, h8 = zs1 h7 5 0 6 ((h7.1 5 0 6) + 1) → zT G (d + 2) mX12_readsNumber 9 [zr 5 0, zi x1, zi x2, zi (x3 + 1)] [] h8 Q))) ∧ (¬ ((48 : Int32) ≤ y3 ∧ y3 ≤ (57 : Int32)) → Q (some (zi 0)) h1)))) :
  zT G (d + 2) mX12_readsNumber 9 [zr 5 0, zi x1, zi x2, zi x3] [] h Q := by
  refine zt_iload_n kX12_readsNumber_9 rfl ?_
  refine zt_iload_n kX12_readsNumber_10 rfl ?_
  refine zt_icmp_ge kX12_readsNumber_11 (fun c => ?_) (fun c => ?_)
  · replace H := H.1 c
    refine zt_iconst (v := 1) kX12_readsNumber_69 rfl ?_
    exact zt_zret kX12_readsNumber_70 rfl (by decide) H
  · replace H := H.2 c
    refine zt_aload_n kX12_readsNumber_14 rfl ?_
    refine zt_cV (as := []) kX12_readsNumber_15 sRX12_123 rfl (by decide) rfl (by simp) rfl H (fun r2 h1 H => ?_)
    obtain ⟨y3, rfl, H⟩ := H
    refine zt_bipush (v := 48) kX12_readsNumber_18 rfl ?_
    refine zt_bipush (v := 57) kX12_readsNumber_20 rfl ?_
    refine zt_cS (as := [zi y3, zi 48, zi 57]) kX12_readsNumber_22 sRX12_53 rfl (by simp) rfl (sX12_isIn _  ) (fun r h0 hq => ?_)
    obtain ⟨rfl, hh⟩ := hq
    replace hh := hh.symm
    subst hh
    refine zt_ifb_ne kX12_readsNumber_25 (fun c => ?_) (fun c => ?_)
    · replace H := H.1 c
      refine zt_aload_n kX12_readsNumber_30 rfl ?_
      refine zt_get (v := zr 34 0) kX12_readsNumber_31 fRX12_22 rfl (by decide) rfl ?_
      refine zt_iload_n kX12_readsNumber_34 rfl ?_
      refine zt_bipush (v := 10) kX12_readsNumber_35 rfl ?_
      refine zt_aload_n kX12_readsNumber_37 rfl ?_
      refine zt_get (v := zr 34 0) kX12_readsNumber_38 fRX12_22 rfl (by decide) rfl ?_
      refine zt_iload_n kX12_readsNumber_41 rfl ?_
      obtain ⟨hv, H⟩ := H
      refine zt_iald kX12_readsNumber_42 rfl (by decide) hv ?_
      refine zt_imul kX12_readsNumber_43 ?_
      refine zt_aload_n kX12_readsNumber_44 rfl ?_
      refine zt_cV (as := []) kX12_readsNumber_45 sRX12_123 rfl (by decide) rfl (by simp) rfl H (fun r5 h4 H => ?_)
      obtain ⟨y6, rfl, H⟩ := H
      refine zt_iadd kX12_readsNumber_48 ?_
      refine zt_bipush (v := 48) kX12_readsNumber_49 rfl ?_
      refine zt_isub kX12_readsNumber_51 ?_
      obtain ⟨hv, H⟩ := H
      refine zt_iast kX12_readsNumber_52 rfl (by decide) hv ?_
      refine zt_heap (fun h7 eh7 => ?_)
      replace H := H h7 eh7
      refine zt_aload_n kX12_readsNumber_53 rfl ?_
      refine zt_dup kX12_readsNumber_54 (by intro x q; cases q) ?_
      refine zt_get (v := zi (h7.1 5 0 6)) kX12_readsNumber_55 fRX12_114 rfl (by decide) rfl ?_
      refine zt_iconst (v := 1) kX12_readsNumber_58 rfl ?_
      refine zt_iadd kX12_readsNumber_59 ?_
      refine zt_put kX12_readsNumber_60 fRX12_114 pRX12_6 rfl (by decide) rfl ?_
      refine zt_heap (fun h8 eh8 => ?_)
      replace H := H h8 eh8
      refine zt_iinc (v := (x3 + 1)) (L' := [zr 5 0, zi x1, zi x2, zi (x3 + 1)]) kX12_readsNumber_63 rfl rfl (by decide) rfl ?_
      refine zt_goto kX12_readsNumber_66 ?_
      exact H
    · replace H := H.2 c
      refine zt_iconst (v := 0) kX12_readsNumber_28 rfl ?_
      exact zt_zret kX12_readsNumber_29 rfl (by decide) H

theorem kX12_readsStatement_0 : zD cX12_readsStatement 0 1 (.aload_n 0) 1 := by decide +kernel
theorem kX12_readsStatement_1 : zD cX12_readsStatement 1 4 (.invokevirtual 123) 3 := by decide +kernel
theorem kX12_readsStatement_4 : zD cX12_readsStatement 4 5 (.istore_n 1) 1 := by decide +kernel
theorem kX12_readsStatement_5 : zD cX12_readsStatement 5 6 (.aload_n 0) 1 := by decide +kernel
theorem kX12_readsStatement_6 : zD cX12_readsStatement 6 7 (.dup) 1 := by decide +kernel
theorem kX12_readsStatement_7 : zD cX12_readsStatement 7 10 (.getfield 114) 3 := by decide +kernel
theorem kX12_readsStatement_10 : zD cX12_readsStatement 10 11 (.iconst 1) 1 := by decide +kernel
theorem kX12_readsStatement_11 : zD cX12_readsStatement 11 12 (.iadd) 1 := by decide +kernel
theorem kX12_readsStatement_12 : zD cX12_readsStatement 12 15 (.putfield 114) 3 := by decide +kernel
theorem kX12_readsStatement_15 : zD cX12_readsStatement 15 16 (.iload_n 1) 1 := by decide +kernel
theorem kX12_readsStatement_16 : decode cX12_readsStatement 16 = .ok (.lookupswitch 82 #[(112, 72), (115, 36), (120, 72)], 36) := by decide +kernel
theorem kX12_readsStatement_52 : zD cX12_readsStatement 52 53 (.aload_n 0) 1 := by decide +kernel
theorem kX12_readsStatement_53 : zD cX12_readsStatement 53 54 (.iconst 0) 1 := by decide +kernel
theorem kX12_readsStatement_54 : zD cX12_readsStatement 54 55 (.iconst 2) 1 := by decide +kernel
theorem kX12_readsStatement_55 : zD cX12_readsStatement 55 58 (.invokevirtual 127) 3 := by decide +kernel
theorem kX12_readsStatement_58 : zB cX12_readsStatement 58 61 83 (.ifCond .eq 25) 25 := by decide +kernel
theorem kX12_readsStatement_61 : zD cX12_readsStatement 61 62 (.aload_n 0) 1 := by decide +kernel
theorem kX12_readsStatement_62 : zD cX12_readsStatement 62 63 (.iconst 1) 1 := by decide +kernel
theorem kX12_readsStatement_63 : zD cX12_readsStatement 63 64 (.iconst 1) 1 := by decide +kernel
theorem kX12_readsStatement_64 : zD cX12_readsStatement 64 67 (.invokevirtual 127) 3 := by decide +kernel
theorem kX12_readsStatement_67 : zB cX12_readsStatement 67 70 83 (.ifCond .eq 16) 16 := by decide +kernel
theorem kX12_readsStatement_70 : zD cX12_readsStatement 70 71 (.aload_n 0) 1 := by decide +kernel
theorem kX12_readsStatement_71 : zD cX12_readsStatement 71 72 (.iconst 2) 1 := by decide +kernel
theorem kX12_readsStatement_72 : zD cX12_readsStatement 72 73 (.iconst 1) 1 := by decide +kernel
theorem kX12_readsStatement_73 : zD cX12_readsStatement 73 76 (.invokevirtual 127) 3 := by decide +kernel
theorem kX12_readsStatement_76 : zB cX12_readsStatement 76 79 83 (.ifCond .eq 7) 7 := by decide +kernel
theorem kX12_readsStatement_79 : zD cX12_readsStatement 79 80 (.iconst 1) 1 := by decide +kernel
theorem kX12_readsStatement_80 : zB cX12_readsStatement 80 83 84 (.goto 4) 4 := by decide +kernel
theorem kX12_readsStatement_83 : zD cX12_readsStatement 83 84 (.iconst 0) 1 := by decide +kernel
theorem kX12_readsStatement_84 : zD cX12_readsStatement 84 85 (.istore_n 2) 1 := by decide +kernel
theorem kX12_readsStatement_85 : zB cX12_readsStatement 85 88 110 (.goto 25) 25 := by decide +kernel
theorem kX12_readsStatement_88 : zD cX12_readsStatement 88 89 (.aload_n 0) 1 := by decide +kernel
theorem kX12_readsStatement_89 : zD cX12_readsStatement 89 90 (.iconst 0) 1 := by decide +kernel
theorem kX12_readsStatement_90 : zD cX12_readsStatement 90 91 (.iconst 2) 1 := by decide +kernel
theorem kX12_readsStatement_91 : zD cX12_readsStatement 91 94 (.invokevirtual 127) 3 := by decide +kernel
theorem kX12_readsStatement_94 : zD cX12_readsStatement 94 95 (.istore_n 2) 1 := by decide +kernel
theorem kX12_readsStatement_95 : zB cX12_readsStatement 95 98 110 (.goto 15) 15 := by decide +kernel
theorem kX12_readsStatement_98 : zD cX12_readsStatement 98 99 (.aload_n 0) 1 := by decide +kernel
theorem kX12_readsStatement_99 : zD cX12_readsStatement 99 100 (.dup) 1 := by decide +kernel
theorem kX12_readsStatement_100 : zD cX12_readsStatement 100 103 (.getfield 114) 3 := by decide +kernel
theorem kX12_readsStatement_103 : zD cX12_readsStatement 103 104 (.iconst 1) 1 := by decide +kernel
theorem kX12_readsStatement_104 : zD cX12_readsStatement 104 105 (.isub) 1 := by decide +kernel
theorem kX12_readsStatement_105 : zD cX12_readsStatement 105 108 (.putfield 114) 3 := by decide +kernel
theorem kX12_readsStatement_108 : zD cX12_readsStatement 108 109 (.iconst 0) 1 := by decide +kernel
theorem kX12_readsStatement_109 : zD cX12_readsStatement 109 110 (.ireturn) 1 := by decide +kernel
theorem kX12_readsStatement_110 : zD cX12_readsStatement 110 111 (.iload_n 2) 1 := by decide +kernel
theorem kX12_readsStatement_111 : zB cX12_readsStatement 111 114 123 (.ifCond .eq 12) 12 := by decide +kernel
theorem kX12_readsStatement_114 : zD cX12_readsStatement 114 115 (.aload_n 0) 1 := by decide +kernel
theorem kX12_readsStatement_115 : zD cX12_readsStatement 115 118 (.invokevirtual 123) 3 := by decide +kernel
theorem kX12_readsStatement_118 : zD cX12_readsStatement 118 120 (.bipush 59) 2 := by decide +kernel
theorem kX12_readsStatement_120 : zB cX12_readsStatement 120 123 125 (.if_icmp .eq 5) 5 := by decide +kernel
theorem kX12_readsStatement_123 : zD cX12_readsStatement 123 124 (.iconst 0) 1 := by decide +kernel
theorem kX12_readsStatement_124 : zD cX12_readsStatement 124 125 (.ireturn) 1 := by decide +kernel
theorem kX12_readsStatement_125 : zD cX12_readsStatement 125 126 (.aload_n 0) 1 := by decide +kernel
theorem kX12_readsStatement_126 : zD cX12_readsStatement 126 127 (.dup) 1 := by decide +kernel
theorem kX12_readsStatement_127 : zD cX12_readsStatement 127 130 (.getfield 114) 3 := by decide +kernel
theorem kX12_readsStatement_130 : zD cX12_readsStatement 130 131 (.iconst 1) 1 := by decide +kernel
theorem kX12_readsStatement_131 : zD cX12_readsStatement 131 132 (.iadd) 1 := by decide +kernel
theorem kX12_readsStatement_132 : zD cX12_readsStatement 132 135 (.putfield 114) 3 := by decide +kernel
theorem kX12_readsStatement_135 : zD cX12_readsStatement 135 136 (.iconst 1) 1 := by decide +kernel
theorem kX12_readsStatement_136 : zD cX12_readsStatement 136 137 (.ireturn) 1 := by decide +kernel
set_option maxRecDepth 10000 in
theorem wX12_readsStatement_0 {G : ZG} {d : Nat} {h : ZH} {Q : Option ZV → ZH → Prop}  
  (H : zC G (d + 2) mX12_here [zr 5 0] h (fun r2 h1 => ∃ y3 : Int32, r2 = some (zi y3) ∧ ∀ h4 : ZH, h4 = zs1 h1 5 0 6 ((h1.1 5 0 6) + 1) → (y3 = 112 → zC G (d + 2) mX12_readsNumber [zr 5 0, zi 0, zi 2] h4 (fun r6 h5 => ∃ y7 : Int32, r6 = some (zi y7) ∧ (y7 = 0 → Q (some (zi 0)) h5) ∧ (¬ y7 = 0 → zC G (d + 2) mX12_here [zr 5 0] h5 (fun r9 h8 => ∃ y10 : Int32, r9 = some (zi y10) ∧ (y10 = 59 → ∀ h11 : ZH, h11 = zs1 h8 5 0 6 ((h8.1 5 0 6) + 1) → Q (some (zi 1)) h11) ∧ (¬ y10 = 59 → Q (some (zi 0)) h8))))) ∧ (¬ y3 = 112 → (y3 = 115 → zC G (d + 2) mX12_readsNumber [zr 5 0, zi 0, zi 2] h4 (fun r13 h12 => ∃ y14 : Int32, r13 = some (zi y14) ∧ (y14 = 0 → Q (some (zi 0)) h12) ∧ (¬ y14 = 0 → zC G (d + 2) mX12_readsNumber [zr 5 0, zi 1, zi 1] h12 (fun r16 h15 => ∃ y17 : Int32, r16 = some (zi y17) ∧ (y17 = 0 → Q (some (zi 0)) h15) ∧ (¬ y17 = 0 → zC G (d + 2) mX12_readsNumber [zr 5 0, zi 2, zi 1] h15 (fun r19 h18 => ∃ y20 : Int32, r19 = some (zi y20) ∧ (y20 = 0 → Q (some (zi 0)) h18) ∧ (¬ y20 = 0 → zC G (d + 2) mX12_here [zr 5 0] h18 (fun r22 h21 => ∃ y23 : Int32, r22 = some (zi y23) ∧ (y23 = 59 → ∀ h24 : ZH, h24 = zs1 h21 5 0 6 ((h21.1 5 0 6) + 1) → Q (some (zi 1)) h24) ∧ (¬ y23 = 59 → Q (some (zi 0)) h21))))))))) ∧ (¬ y3 = 115 → (y3 = 120 → zC G (d + 2) mX12_readsNumber [zr 5 0, zi 0, zi 2] h4 (fun r26 h25 => ∃ y27 : Int32, r26 = some (zi y27) ∧ (y27 = 0 → Q (some (zi 0)) h25) ∧ (¬ y27 = 0 → zC G (d + 2) mX12_here [zr 5 0] h25 (fun r29 h28 => ∃ y30 : Int32, r29 = some (zi y30) ∧ (y30 = 59 → ∀ h31 : ZH, h31 = zs1 h28 5 0 6 ((h28.1 5 0 6) + 1) → Q (some (zi 1)) h31) ∧ (¬ y30 = 59 → Q (some (zi 0)) h28))))) ∧ (¬ y3 = 120 → ∀ h32 : ZH, h32 = zs1 h4 5 0 6 ((h4.1 5 0 6) - 1) → Q (some (zi 0)) h32))))) :
  zT G (d + 3) mX12_readsStatement 0 [zr 5 0, zu, zu] [] h Q := by
  refine zt_aload_n kX12_readsStatement_0 rfl ?_
  refine zt_cV (as := []) kX12_readsStatement_1 sRX12_123 rfl (by decide) rfl (by simp) rfl H (fun r2 h1 H => ?_)
  obtain ⟨y3, rfl, H⟩ := H
  refine zt_istore_n (L' := [zr 5 0, zi y3, zu]) kX12_readsStatement_4 (by decide) rfl ?_
  refine zt_aload_n kX12_readsStatement_5 rfl ?_
  refine zt_dup kX12_readsStatement_6 (by intro x q; cases q) ?_
  refine zt_get (v := zi (h1.1 5 0 6)) kX12_readsStatement_7 fRX12_114 rfl (by decide) rfl ?_
  refine zt_iconst (v := 1) kX12_readsStatement_10 rfl ?_
  refine zt_iadd kX12_readsStatement_11 ?_
  refine zt_put kX12_readsStatement_12 fRX12_114 pRX12_6 rfl (by decide) rfl ?_
  refine zt_heap (fun h4 eh4 => ?_)
  replace H := H h4 eh4
  refine zt_iload_n kX12_readsStatement_15 rfl ?_
  rcases Classical.em (y3 = 112) with c0 | c0
  · replace H := H.1 c0
    refine zt_lookup (off := 72) (tgt := 88) kX12_readsStatement_16 (by decide) (by first | (rw [c0]; done) | (rw [c0]; rfl)) (by decide) ?_
    refine zt_aload_n kX12_readsStatement_88 rfl ?_
    refine zt_iconst (v := 0) kX12_readsStatement_89 rfl ?_
    refine zt_iconst (v := 2) kX12_readsStatement_90 rfl ?_
    refine zt_cV (as := [zi 0, zi 2]) kX12_readsStatement_91 sRX12_127 rfl (by decide) rfl (by simp) rfl H (fun r6 h5 H => ?_)
    obtain ⟨y7, rfl, H⟩ := H
    refine zt_istore_n (L' := [zr 5 0, zi y3, zi y7]) kX12_readsStatement_94 (by decide) rfl ?_
    refine zt_goto kX12_readsStatement_95 ?_
    refine zt_iload_n kX12_readsStatement_110 rfl ?_
    refine zt_if_eq kX12_readsStatement_111 (fun c => ?_) (fun c => ?_)
    · replace H := H.1 c
      refine zt_iconst (v := 0) kX12_readsStatement_123 rfl ?_
      exact zt_zret kX12_readsStatement_124 rfl (by decide) H
    · replace H := H.2 c
      refine zt_aload_n kX12_readsStatement_114 rfl ?_
      refine zt_cV (as := []) kX12_readsStatement_115 sRX12_123 rfl (by decide) rfl (by simp) rfl H (fun r9 h8 H => ?_)
      obtain ⟨y10, rfl, H⟩ := H
      refine zt_bipush (v := 59) kX12_readsStatement_118 rfl ?_
      refine zt_icmp_eq kX12_readsStatement_120 (fun c => ?_) (fun c => ?_)
      · replace H := H.1 c
        refine zt_aload_n kX12_readsStatement_125 rfl ?_
        refine zt_dup kX12_readsStatement_126 (by intro x q; cases q) ?_
        refine zt_get (v := zi (h8.1 5 0 6)) kX12_readsStatement_127 fRX12_114 rfl (by decide) rfl ?_
        refine zt_iconst (v := 1) kX12_readsStatement_130 rfl ?_
        refine zt_iadd kX12_readsStatement_131 ?_
        refine zt_put kX12_readsStatement_132 fRX12_114 pRX12_6 rfl (by decide) rfl ?_
        refine zt_heap (fun h11 eh11 => ?_)
        replace H := H h11 eh11
        refine zt_iconst (v := 1) kX12_readsStatement_135 rfl ?_
        exact zt_zret kX12_readsStatement_136 rfl (by decide) H
      · replace H := H.2 c
        refine zt_iconst (v := 0) kX12_readsStatement_123 rfl ?_
        exact zt_zret kX12_readsStatement_124 rfl (by decide) H
  replace H := H.2 c0
  rcases Classical.em (y3 = 115) with c1 | c1
  · replace H := H.1 c1
    refine zt_lookup (off := 36) (tgt := 52) kX12_readsStatement_16 (by decide) (by first | (rw [c1]; done) | (rw [c1]; rfl)) (by decide) ?_
    refine zt_aload_n kX12_readsStatement_52 rfl ?_
    refine zt_iconst (v := 0) kX12_readsStatement_53 rfl ?_
    refine zt_iconst (v := 2) kX12_readsStatement_54 rfl ?_
    refine zt_cV (as := [zi 0, zi 2]) kX12_readsStatement_55 sRX12_127 rfl (by decide) rfl (by simp) rfl H (fun r13 h12 H => ?_)
    obtain ⟨y14, rfl, H⟩ := H
    refine zt_if_eq kX12_readsStatement_58 (fun c => ?_) (fun c => ?_)
    · replace H := H.1 c
      refine zt_iconst (v := 0) kX12_readsStatement_83 rfl ?_
      refine zt_istore_n (L' := [zr 5 0, zi y3, zi 0]) kX12_readsStatement_84 (by decide) rfl ?_
      refine zt_goto kX12_readsStatement_85 ?_
      refine zt_iload_n kX12_readsStatement_110 rfl ?_
      refine zt_if_eq kX12_readsStatement_111 (fun _ => ?_) (fun c => absurd c (by decide))
      refine zt_iconst (v := 0) kX12_readsStatement_123 rfl ?_
      exact zt_zret kX12_readsStatement_124 rfl (by decide) H
    · replace H := H.2 c
      refine zt_aload_n kX12_readsStatement_61 rfl ?_
      refine zt_iconst (v := 1) kX12_readsStatement_62 rfl ?_
      refine zt_iconst (v := 1) kX12_readsStatement_63 rfl ?_
      refine zt_cV (as := [zi 1, zi 1]) kX12_readsStatement_64 sRX12_127 rfl (by decide) rfl (by simp) rfl H (fun r16 h15 H => ?_)
      obtain ⟨y17, rfl, H⟩ := H
      refine zt_if_eq kX12_readsStatement_67 (fun c => ?_) (fun c => ?_)
      · replace H := H.1 c
        refine zt_iconst (v := 0) kX12_readsStatement_83 rfl ?_
        refine zt_istore_n (L' := [zr 5 0, zi y3, zi 0]) kX12_readsStatement_84 (by decide) rfl ?_
        refine zt_goto kX12_readsStatement_85 ?_
        refine zt_iload_n kX12_readsStatement_110 rfl ?_
        refine zt_if_eq kX12_readsStatement_111 (fun _ => ?_) (fun c => absurd c (by decide))
        refine zt_iconst (v := 0) kX12_readsStatement_123 rfl ?_
        exact zt_zret kX12_readsStatement_124 rfl (by decide) H
      · replace H := H.2 c
        refine zt_aload_n kX12_readsStatement_70 rfl ?_
        refine zt_iconst (v := 2) kX12_readsStatement_71 rfl ?_
        refine zt_iconst (v := 1) kX12_readsStatement_72 rfl ?_
        refine zt_cV (as := [zi 2, zi 1]) kX12_readsStatement_73 sRX12_127 rfl (by decide) rfl (by simp) rfl H (fun r19 h18 H => ?_)
        obtain ⟨y20, rfl, H⟩ := H
        refine zt_if_eq kX12_readsStatement_76 (fun c => ?_) (fun c => ?_)
        · replace H := H.1 c
          refine zt_iconst (v := 0) kX12_readsStatement_83 rfl ?_
          refine zt_istore_n (L' := [zr 5 0, zi y3, zi 0]) kX12_readsStatement_84 (by decide) rfl ?_
          refine zt_goto kX12_readsStatement_85 ?_
          refine zt_iload_n kX12_readsStatement_110 rfl ?_
          refine zt_if_eq kX12_readsStatement_111 (fun _ => ?_) (fun c => absurd c (by decide))
          refine zt_iconst (v := 0) kX12_readsStatement_123 rfl ?_
          exact zt_zret kX12_readsStatement_124 rfl (by decide) H
        · replace H := H.2 c
          refine zt_iconst (v := 1) kX12_readsStatement_79 rfl ?_
          refine zt_goto kX12_readsStatement_80 ?_
          refine zt_istore_n (L' := [zr 5 0, zi y3, zi 1]) kX12_readsStatement_84 (by decide) rfl ?_
          refine zt_goto kX12_readsStatement_85 ?_
          refine zt_iload_n kX12_readsStatement_110 rfl ?_
          refine zt_if_eq kX12_readsStatement_111 (fun c => absurd c (by decide)) (fun _ => ?_)
          refine zt_aload_n kX12_readsStatement_114 rfl ?_
          refine zt_cV (as := []) kX12_readsStatement_115 sRX12_123 rfl (by decide) rfl (by simp) rfl H (fun r22 h21 H => ?_)
          obtain ⟨y23, rfl, H⟩ := H
          refine zt_bipush (v := 59) kX12_readsStatement_118 rfl ?_
          refine zt_icmp_eq kX12_readsStatement_120 (fun c => ?_) (fun c => ?_)
          · replace H := H.1 c
            refine zt_aload_n kX12_readsStatement_125 rfl ?_
            refine zt_dup kX12_readsStatement_126 (by intro x q; cases q) ?_
            refine zt_get (v := zi (h21.1 5 0 6)) kX12_readsStatement_127 fRX12_114 rfl (by decide) rfl ?_
            refine zt_iconst (v := 1) kX12_readsStatement_130 rfl ?_
            refine zt_iadd kX12_readsStatement_131 ?_
            refine zt_put kX12_readsStatement_132 fRX12_114 pRX12_6 rfl (by decide) rfl ?_
            refine zt_heap (fun h24 eh24 => ?_)
            replace H := H h24 eh24
            refine zt_iconst (v := 1) kX12_readsStatement_135 rfl ?_
            exact zt_zret kX12_readsStatement_136 rfl (by decide) H
          · replace H := H.2 c
            refine zt_iconst (v := 0) kX12_readsStatement_123 rfl ?_
            exact zt_zret kX12_readsStatement_124 rfl (by decide) H
  replace H := H.2 c1
  rcases Classical.em (y3 = 120) with c2 | c2
  · replace H := H.1 c2
    refine zt_lookup (off := 72) (tgt := 88) kX12_readsStatement_16 (by decide) (by first | (rw [c2]; done) | (rw [c2]; rfl)) (by decide) ?_
    refine zt_aload_n kX12_readsStatement_88 rfl ?_
    refine zt_iconst (v := 0) kX12_readsStatement_89 rfl ?_
    refine zt_iconst (v := 2) kX12_readsStatement_90 rfl ?_
    refine zt_cV (as := [zi 0, zi 2]) kX12_readsStatement_91 sRX12_127 rfl (by decide) rfl (by simp) rfl H (fun r26 h25 H => ?_)
    obtain ⟨y27, rfl, H⟩ := H
    refine zt_istore_n (L' := [zr 5 0, zi y3, zi y27]) kX12_readsStatement_94 (by decide) rfl ?_
    refine zt_goto kX12_readsStatement_95 ?_
    refine zt_iload_n kX12_readsStatement_110 rfl ?_
    refine zt_if_eq kX12_readsStatement_111 (fun c => ?_) (fun c => ?_)
    · replace H := H.1 c
      refine zt_iconst (v := 0) kX12_readsStatement_123 rfl ?_
      exact zt_zret kX12_readsStatement_124 rfl (by decide) H
    · replace H := H.2 c
      refine zt_aload_n kX12_readsStatement_114 rfl ?_
      refine zt_cV (as := []) kX12_readsStatement_115 sRX12_123 rfl (by decide) rfl (by simp) rfl H (fun r29 h28 H => ?_)
      obtain ⟨y30, rfl, H⟩ := H
      refine zt_bipush (v := 59) kX12_readsStatement_118 rfl ?_
      refine zt_icmp_eq kX12_readsStatement_120 (fun c => ?_) (fun c => ?_)
      · replace H := H.1 c
        refine zt_aload_n kX12_readsStatement_125 rfl ?_
        refine zt_dup kX12_readsStatement_126 (by intro x q; cases q) ?_
        refine zt_get (v := zi (h28.1 5 0 6)) kX12_readsStatement_127 fRX12_114 rfl (by decide) rfl ?_
        refine zt_iconst (v := 1) kX12_readsStatement_130 rfl ?_
        refine zt_iadd kX12_readsStatement_131 ?_
        refine zt_put kX12_readsStatement_132 fRX12_114 pRX12_6 rfl (by decide) rfl ?_
        refine zt_heap (fun h31 eh31 => ?_)
        replace H := H h31 eh31
        refine zt_iconst (v := 1) kX12_readsStatement_135 rfl ?_
        exact zt_zret kX12_readsStatement_136 rfl (by decide) H
      · replace H := H.2 c
        refine zt_iconst (v := 0) kX12_readsStatement_123 rfl ?_
        exact zt_zret kX12_readsStatement_124 rfl (by decide) H
  replace H := H.2 c2
  refine zt_lookup (off := 82) (tgt := 98) kX12_readsStatement_16 (by decide) (by show Op.lookupswitch.offset [(112, 72), (115, 36), (120, 72)] 82 _ = _; rw [lv_osw (a := 112) c0 rfl, lv_osw (a := 115) c1 rfl, lv_osw (a := 120) c2 rfl]; rfl) (by decide) ?_
  refine zt_aload_n kX12_readsStatement_98 rfl ?_
  refine zt_dup kX12_readsStatement_99 (by intro x q; cases q) ?_
  refine zt_get (v := zi (h4.1 5 0 6)) kX12_readsStatement_100 fRX12_114 rfl (by decide) rfl ?_
  refine zt_iconst (v := 1) kX12_readsStatement_103 rfl ?_
  refine zt_isub kX12_readsStatement_104 ?_
  refine zt_put kX12_readsStatement_105 fRX12_114 pRX12_6 rfl (by decide) rfl ?_
  refine zt_heap (fun h32 eh32 => ?_)
  replace H := H h32 eh32
  refine zt_iconst (v := 0) kX12_readsStatement_108 rfl ?_
  exact zt_zret kX12_readsStatement_109 rfl (by decide) H

theorem kX12_isDone_0 : zD cX12_isDone 0 1 (.aload_n 0) 1 := by decide +kernel
theorem kX12_isDone_1 : zD cX12_isDone 1 4 (.getfield 22) 3 := by decide +kernel
theorem kX12_isDone_4 : zD cX12_isDone 4 5 (.iconst 0) 1 := by decide +kernel
theorem kX12_isDone_5 : zD cX12_isDone 5 6 (.iaload) 1 := by decide +kernel
theorem kX12_isDone_6 : zD cX12_isDone 6 7 (.istore_n 2) 1 := by decide +kernel
theorem kX12_isDone_7 : zD cX12_isDone 7 8 (.iload_n 2) 1 := by decide +kernel
theorem kX12_isDone_8 : zD cX12_isDone 8 11 (.invokestatic 130) 3 := by decide +kernel
theorem kX12_isDone_11 : zB cX12_isDone 11 14 16 (.ifCond .ne 5) 5 := by decide +kernel
theorem kX12_isDone_14 : zD cX12_isDone 14 15 (.iconst 0) 1 := by decide +kernel
theorem kX12_isDone_15 : zD cX12_isDone 15 16 (.ireturn) 1 := by decide +kernel
theorem kX12_isDone_16 : zD cX12_isDone 16 17 (.iload_n 1) 1 := by decide +kernel
theorem kX12_isDone_17 : decode cX12_isDone 17 = .ok (.lookupswitch 98 #[(115, 27), (120, 67)], 27) := by decide +kernel
theorem kX12_isDone_44 : zD cX12_isDone 44 45 (.aload_n 0) 1 := by decide +kernel
theorem kX12_isDone_45 : zD cX12_isDone 45 46 (.iload_n 2) 1 := by decide +kernel
theorem kX12_isDone_46 : zD cX12_isDone 46 49 (.invokevirtual 133) 3 := by decide +kernel
theorem kX12_isDone_49 : zB cX12_isDone 49 52 63 (.ifCond .ne 14) 14 := by decide +kernel
theorem kX12_isDone_52 : zD cX12_isDone 52 53 (.aload_n 0) 1 := by decide +kernel
theorem kX12_isDone_53 : zD cX12_isDone 53 56 (.getfield 22) 3 := by decide +kernel
theorem kX12_isDone_56 : zD cX12_isDone 56 57 (.iconst 1) 1 := by decide +kernel
theorem kX12_isDone_57 : zD cX12_isDone 57 58 (.iaload) 1 := by decide +kernel
theorem kX12_isDone_58 : zD cX12_isDone 58 60 (.bipush 8) 2 := by decide +kernel
theorem kX12_isDone_60 : zB cX12_isDone 60 63 65 (.if_icmp .lt 5) 5 := by decide +kernel
theorem kX12_isDone_63 : zD cX12_isDone 63 64 (.iconst 0) 1 := by decide +kernel
theorem kX12_isDone_64 : zD cX12_isDone 64 65 (.ireturn) 1 := by decide +kernel
theorem kX12_isDone_65 : zD cX12_isDone 65 66 (.aload_n 0) 1 := by decide +kernel
theorem kX12_isDone_66 : zD cX12_isDone 66 67 (.iload_n 2) 1 := by decide +kernel
theorem kX12_isDone_67 : zD cX12_isDone 67 68 (.aload_n 0) 1 := by decide +kernel
theorem kX12_isDone_68 : zD cX12_isDone 68 71 (.getfield 22) 3 := by decide +kernel
theorem kX12_isDone_71 : zD cX12_isDone 71 72 (.iconst 1) 1 := by decide +kernel
theorem kX12_isDone_72 : zD cX12_isDone 72 73 (.iaload) 1 := by decide +kernel
theorem kX12_isDone_73 : zD cX12_isDone 73 74 (.aload_n 0) 1 := by decide +kernel
theorem kX12_isDone_74 : zD cX12_isDone 74 77 (.getfield 22) 3 := by decide +kernel
theorem kX12_isDone_77 : zD cX12_isDone 77 78 (.iconst 2) 1 := by decide +kernel
theorem kX12_isDone_78 : zD cX12_isDone 78 79 (.iaload) 1 := by decide +kernel
theorem kX12_isDone_79 : zD cX12_isDone 79 82 (.invokevirtual 136) 3 := by decide +kernel
theorem kX12_isDone_82 : zD cX12_isDone 82 83 (.iconst 1) 1 := by decide +kernel
theorem kX12_isDone_83 : zD cX12_isDone 83 84 (.ireturn) 1 := by decide +kernel
theorem kX12_isDone_84 : zD cX12_isDone 84 85 (.aload_n 0) 1 := by decide +kernel
theorem kX12_isDone_85 : zD cX12_isDone 85 86 (.iload_n 2) 1 := by decide +kernel
theorem kX12_isDone_86 : zD cX12_isDone 86 89 (.invokevirtual 133) 3 := by decide +kernel
theorem kX12_isDone_89 : zB cX12_isDone 89 92 94 (.ifCond .ne 5) 5 := by decide +kernel
theorem kX12_isDone_92 : zD cX12_isDone 92 93 (.iconst 0) 1 := by decide +kernel
theorem kX12_isDone_93 : zD cX12_isDone 93 94 (.ireturn) 1 := by decide +kernel
theorem kX12_isDone_94 : zD cX12_isDone 94 95 (.aload_n 0) 1 := by decide +kernel
theorem kX12_isDone_95 : zD cX12_isDone 95 98 (.getfield 9) 3 := by decide +kernel
theorem kX12_isDone_98 : zD cX12_isDone 98 99 (.iconst 0) 1 := by decide +kernel
theorem kX12_isDone_99 : zD cX12_isDone 99 100 (.aload_n 0) 1 := by decide +kernel
theorem kX12_isDone_100 : zD cX12_isDone 100 101 (.aload_n 0) 1 := by decide +kernel
theorem kX12_isDone_101 : zD cX12_isDone 101 104 (.getfield 9) 3 := by decide +kernel
theorem kX12_isDone_104 : zD cX12_isDone 104 105 (.iconst 0) 1 := by decide +kernel
theorem kX12_isDone_105 : zD cX12_isDone 105 106 (.iaload) 1 := by decide +kernel
theorem kX12_isDone_106 : zD cX12_isDone 106 107 (.iconst 1) 1 := by decide +kernel
theorem kX12_isDone_107 : zD cX12_isDone 107 108 (.iload_n 2) 1 := by decide +kernel
theorem kX12_isDone_108 : zD cX12_isDone 108 109 (.ishl) 1 := by decide +kernel
theorem kX12_isDone_109 : zD cX12_isDone 109 112 (.invokevirtual 110) 3 := by decide +kernel
theorem kX12_isDone_112 : zD cX12_isDone 112 113 (.iastore) 1 := by decide +kernel
theorem kX12_isDone_113 : zD cX12_isDone 113 114 (.iconst 1) 1 := by decide +kernel
theorem kX12_isDone_114 : zD cX12_isDone 114 115 (.ireturn) 1 := by decide +kernel
theorem kX12_isDone_115 : zD cX12_isDone 115 116 (.aload_n 0) 1 := by decide +kernel
theorem kX12_isDone_116 : zD cX12_isDone 116 119 (.getfield 9) 3 := by decide +kernel
theorem kX12_isDone_119 : zD cX12_isDone 119 120 (.iconst 1) 1 := by decide +kernel
theorem kX12_isDone_120 : zD cX12_isDone 120 121 (.dup2) 1 := by decide +kernel
theorem kX12_isDone_121 : zD cX12_isDone 121 122 (.iaload) 1 := by decide +kernel
theorem kX12_isDone_122 : zD cX12_isDone 122 123 (.iconst 1) 1 := by decide +kernel
theorem kX12_isDone_123 : zD cX12_isDone 123 124 (.iload_n 2) 1 := by decide +kernel
theorem kX12_isDone_124 : zD cX12_isDone 124 125 (.ishl) 1 := by decide +kernel
theorem kX12_isDone_125 : zD cX12_isDone 125 126 (.ixor) 1 := by decide +kernel
theorem kX12_isDone_126 : zD cX12_isDone 126 127 (.iastore) 1 := by decide +kernel
theorem kX12_isDone_127 : zD cX12_isDone 127 128 (.aload_n 0) 1 := by decide +kernel
theorem kX12_isDone_128 : zD cX12_isDone 128 131 (.getfield 9) 3 := by decide +kernel
theorem kX12_isDone_131 : zD cX12_isDone 131 132 (.iconst 0) 1 := by decide +kernel
theorem kX12_isDone_132 : zD cX12_isDone 132 133 (.aload_n 0) 1 := by decide +kernel
theorem kX12_isDone_133 : zD cX12_isDone 133 134 (.aload_n 0) 1 := by decide +kernel
theorem kX12_isDone_134 : zD cX12_isDone 134 137 (.getfield 9) 3 := by decide +kernel
theorem kX12_isDone_137 : zD cX12_isDone 137 138 (.iconst 0) 1 := by decide +kernel
theorem kX12_isDone_138 : zD cX12_isDone 138 139 (.iaload) 1 := by decide +kernel
theorem kX12_isDone_139 : zD cX12_isDone 139 142 (.invokevirtual 104) 3 := by decide +kernel
theorem kX12_isDone_142 : zD cX12_isDone 142 143 (.iastore) 1 := by decide +kernel
theorem kX12_isDone_143 : zD cX12_isDone 143 144 (.iconst 1) 1 := by decide +kernel
theorem kX12_isDone_144 : zD cX12_isDone 144 145 (.ireturn) 1 := by decide +kernel
set_option maxRecDepth 10000 in
theorem wX12_isDone_0 {G : ZG} {d : Nat} {h : ZH} {Q : Option ZV → ZH → Prop} {x1 : Int32} 
  (H : ((0 ≤ (h.1 34 0 0) ∧ (h.1 34 0 0) ≤ 11) → (x1 = 115 → ((hasI (h.1 30 0 0) (h.1 34 0 0)) → Q (some (zi 0)) h) ∧ (¬ (hasI (h.1 30 0 0) (h.1 34 0 0)) → ((h.1 34 0 1) < 8 → zC G (d + 6) mX12_laysAt [zr 5 0, zi (h.1 34 0 0), zi (h.1 34 0 1), zi (h.1 34 0 2)] h (fun r2 h1 => r2 = none ∧ Q (some (zi 1)) h1)) ∧ (¬ (h.1 34 0 1) < 8 → Q (some (zi 0)) h))) ∧ (¬ x1 = 115 → (x1 = 120 → ((hasI (h.1 30 0 0) (h.1 34 0 0)) → zC G (d + 6) mX12_leftWithout [zr 5 0, zi (h.1 30 0 0), zi ((1 : Int32) <<< ((h.1 34 0 0) &&& 31))] h (fun r4 h3 => ∃ y5 : Int32, r4 = some (zi y5) ∧ ∀ h6 : ZH, h6 = zs1 h3 30 0 0 y5 → Q (some (zi 1)) h6)) ∧ (¬ (hasI (h.1 30 0 0) (h.1 34 0 0)) → Q (some (zi 0)) h)) ∧ (¬ x1 = 120 → ∀ h7 : ZH, h7 = zs1 h 30 0 1 ((h.1 30 0 1) ^^^ ((1 : Int32) <<< ((h.1 34 0 0) &&& 31))) → zC G (d + 6) mX12_settled [zr 5 0, zi (h7.1 30 0 0)] h7 (fun r9 h8 => ∃ y10 : Int32, r9 = some (zi y10) ∧ ∀ h11 : ZH, h11 = zs1 h8 30 0 0 y10 → Q (some (zi 1)) h11)))) ∧ (¬ (0 ≤ (h.1 34 0 0) ∧ (h.1 34 0 0) ≤ 11) → Q (some (zi 0)) h)) :
  zT G (d + 7) mX12_isDone 0 [zr 5 0, zi x1, zu] [] h Q := by
  refine zt_aload_n kX12_isDone_0 rfl ?_
  refine zt_get (v := zr 34 0) kX12_isDone_1 fRX12_22 rfl (by decide) rfl ?_
  refine zt_iconst (v := 0) kX12_isDone_4 rfl ?_
  refine zt_ialdc 0 rfl kX12_isDone_5 rfl (by decide) (zvp_dec (by decide)) ?_
  refine zt_istore_n (L' := [zr 5 0, zi x1, zi (h.1 34 0 0)]) kX12_isDone_6 (by decide) rfl ?_
  refine zt_iload_n kX12_isDone_7 rfl ?_
  refine zt_cS (as := [zi (h.1 34 0 0)]) kX12_isDone_8 sRX12_130 rfl (by simp) rfl (sX12_isPlace _  ) (fun r h0 hq => ?_)
  obtain ⟨rfl, hh⟩ := hq
  replace hh := hh.symm
  subst hh
  refine zt_ifb_ne kX12_isDone_11 (fun c => ?_) (fun c => ?_)
  · replace H := H.1 c
    refine zt_iload_n kX12_isDone_16 rfl ?_
    rcases Classical.em (x1 = 115) with c0 | c0
    · replace H := H.1 c0
      refine zt_lookup (off := 27) (tgt := 44) kX12_isDone_17 (by decide) (by first | (rw [c0]; done) | (rw [c0]; rfl)) (by decide) ?_
      refine zt_aload_n kX12_isDone_44 rfl ?_
      refine zt_iload_n kX12_isDone_45 rfl ?_
      refine zt_cV (as := [zi (h.1 34 0 0)]) kX12_isDone_46 sRX12_133 rfl (by decide) rfl (by simp) rfl (sX12_isThere _  ) (fun r h0 hq => ?_)
      obtain ⟨rfl, hh⟩ := hq
      replace hh := hh.symm
      subst hh
      refine zt_ifb_ne kX12_isDone_49 (fun c => ?_) (fun c => ?_)
      · replace H := H.1 c
        refine zt_iconst (v := 0) kX12_isDone_63 rfl ?_
        exact zt_zret kX12_isDone_64 rfl (by decide) H
      · replace H := H.2 c
        refine zt_aload_n kX12_isDone_52 rfl ?_
        refine zt_get (v := zr 34 0) kX12_isDone_53 fRX12_22 rfl (by decide) rfl ?_
        refine zt_iconst (v := 1) kX12_isDone_56 rfl ?_
        refine zt_ialdc 1 rfl kX12_isDone_57 rfl (by decide) (zvp_dec (by decide)) ?_
        refine zt_bipush (v := 8) kX12_isDone_58 rfl ?_
        refine zt_icmp_lt kX12_isDone_60 (fun c => ?_) (fun c => ?_)
        · replace H := H.1 c
          refine zt_aload_n kX12_isDone_65 rfl ?_
          refine zt_iload_n kX12_isDone_66 rfl ?_
          refine zt_aload_n kX12_isDone_67 rfl ?_
          refine zt_get (v := zr 34 0) kX12_isDone_68 fRX12_22 rfl (by decide) rfl ?_
          refine zt_iconst (v := 1) kX12_isDone_71 rfl ?_
          refine zt_ialdc 1 rfl kX12_isDone_72 rfl (by decide) (zvp_dec (by decide)) ?_
          refine zt_aload_n kX12_isDone_73 rfl ?_
          refine zt_get (v := zr 34 0) kX12_isDone_74 fRX12_22 rfl (by decide) rfl ?_
          refine zt_iconst (v := 2) kX12_isDone_77 rfl ?_
          refine zt_ialdc 2 rfl kX12_isDone_78 rfl (by decide) (zvp_dec (by decide)) ?_
          refine zt_cV (as := [zi (h.1 34 0 0), zi (h.1 34 0 1), zi (h.1 34 0 2)]) kX12_isDone_79 sRX12_136 rfl (by decide) rfl (by simp) rfl H (fun r2 h1 H => ?_)
          obtain ⟨rfl, H⟩ := H
          refine zt_iconst (v := 1) kX12_isDone_82 rfl ?_
          exact zt_zret kX12_isDone_83 rfl (by decide) H
        · replace H := H.2 c
          refine zt_iconst (v := 0) kX12_isDone_63 rfl ?_
          exact zt_zret kX12_isDone_64 rfl (by decide) H
    replace H := H.2 c0
    rcases Classical.em (x1 = 120) with c1 | c1
    · replace H := H.1 c1
      refine zt_lookup (off := 67) (tgt := 84) kX12_isDone_17 (by decide) (by first | (rw [c1]; done) | (rw [c1]; rfl)) (by decide) ?_
      refine zt_aload_n kX12_isDone_84 rfl ?_
      refine zt_iload_n kX12_isDone_85 rfl ?_
      refine zt_cV (as := [zi (h.1 34 0 0)]) kX12_isDone_86 sRX12_133 rfl (by decide) rfl (by simp) rfl (sX12_isThere _  ) (fun r h0 hq => ?_)
      obtain ⟨rfl, hh⟩ := hq
      replace hh := hh.symm
      subst hh
      refine zt_ifb_ne kX12_isDone_89 (fun c => ?_) (fun c => ?_)
      · replace H := H.1 c
        refine zt_aload_n kX12_isDone_94 rfl ?_
        refine zt_get (v := zr 30 0) kX12_isDone_95 fRX12_9 rfl (by decide) rfl ?_
        refine zt_iconst (v := 0) kX12_isDone_98 rfl ?_
        refine zt_aload_n kX12_isDone_99 rfl ?_
        refine zt_aload_n kX12_isDone_100 rfl ?_
        refine zt_get (v := zr 30 0) kX12_isDone_101 fRX12_9 rfl (by decide) rfl ?_
        refine zt_iconst (v := 0) kX12_isDone_104 rfl ?_
        refine zt_ialdc 0 rfl kX12_isDone_105 rfl (by decide) (zvp_dec (by decide)) ?_
        refine zt_iconst (v := 1) kX12_isDone_106 rfl ?_
        refine zt_iload_n kX12_isDone_107 rfl ?_
        refine zt_ishl kX12_isDone_108 ?_
        refine zt_cV (as := [zi (h.1 30 0 0), zi ((1 : Int32) <<< ((h.1 34 0 0) &&& 31))]) kX12_isDone_109 sRX12_110 rfl (by decide) rfl (by simp) rfl H (fun r4 h3 H => ?_)
        obtain ⟨y5, rfl, H⟩ := H
        refine zt_iastc 0 rfl kX12_isDone_112 rfl (by decide) (zvp_dec (by decide)) ?_
        refine zt_heap (fun h6 eh6 => ?_)
        replace H := H h6 eh6
        refine zt_iconst (v := 1) kX12_isDone_113 rfl ?_
        exact zt_zret kX12_isDone_114 rfl (by decide) H
      · replace H := H.2 c
        refine zt_iconst (v := 0) kX12_isDone_92 rfl ?_
        exact zt_zret kX12_isDone_93 rfl (by decide) H
    replace H := H.2 c1
    refine zt_lookup (off := 98) (tgt := 115) kX12_isDone_17 (by decide) (by show Op.lookupswitch.offset [(115, 27), (120, 67)] 98 _ = _; rw [lv_osw (a := 115) c0 rfl, lv_osw (a := 120) c1 rfl]; rfl) (by decide) ?_
    refine zt_aload_n kX12_isDone_115 rfl ?_
    refine zt_get (v := zr 30 0) kX12_isDone_116 fRX12_9 rfl (by decide) rfl ?_
    refine zt_iconst (v := 1) kX12_isDone_119 rfl ?_
    refine zt_dup2 kX12_isDone_120 (by intro x q; cases q) (by intro x q; cases q) ?_
    refine zt_ialdc 1 rfl kX12_isDone_121 rfl (by decide) (zvp_dec (by decide)) ?_
    refine zt_iconst (v := 1) kX12_isDone_122 rfl ?_
    refine zt_iload_n kX12_isDone_123 rfl ?_
    refine zt_ishl kX12_isDone_124 ?_
    refine zt_ixor kX12_isDone_125 ?_
    refine zt_iastc 1 rfl kX12_isDone_126 rfl (by decide) (zvp_dec (by decide)) ?_
    refine zt_heap (fun h7 eh7 => ?_)
    replace H := H h7 eh7
    refine zt_aload_n kX12_isDone_127 rfl ?_
    refine zt_get (v := zr 30 0) kX12_isDone_128 fRX12_9 rfl (by decide) rfl ?_
    refine zt_iconst (v := 0) kX12_isDone_131 rfl ?_
    refine zt_aload_n kX12_isDone_132 rfl ?_
    refine zt_aload_n kX12_isDone_133 rfl ?_
    refine zt_get (v := zr 30 0) kX12_isDone_134 fRX12_9 rfl (by decide) rfl ?_
    refine zt_iconst (v := 0) kX12_isDone_137 rfl ?_
    refine zt_ialdc 0 rfl kX12_isDone_138 rfl (by decide) (zvp_dec (by decide)) ?_
    refine zt_cV (as := [zi (h7.1 30 0 0)]) kX12_isDone_139 sRX12_104 rfl (by decide) rfl (by simp) rfl H (fun r9 h8 H => ?_)
    obtain ⟨y10, rfl, H⟩ := H
    refine zt_iastc 0 rfl kX12_isDone_142 rfl (by decide) (zvp_dec (by decide)) ?_
    refine zt_heap (fun h11 eh11 => ?_)
    replace H := H h11 eh11
    refine zt_iconst (v := 1) kX12_isDone_143 rfl ?_
    exact zt_zret kX12_isDone_144 rfl (by decide) H
  · replace H := H.2 c
    refine zt_iconst (v := 0) kX12_isDone_14 rfl ?_
    exact zt_zret kX12_isDone_15 rfl (by decide) H

theorem kX12_hall_0 : zD cX12_hall 0 1 (.aload_n 0) 1 := by decide +kernel
theorem kX12_hall_1 : zD cX12_hall 1 2 (.iload_n 1) 1 := by decide +kernel
theorem kX12_hall_2 : zD cX12_hall 2 3 (.iconst 0) 1 := by decide +kernel
theorem kX12_hall_3 : zD cX12_hall 3 6 (.invokevirtual 140) 3 := by decide +kernel
theorem kX12_hall_6 : zD cX12_hall 6 7 (.istore_n 2) 1 := by decide +kernel
theorem kX12_hall_7 : zD cX12_hall 7 8 (.iload_n 2) 1 := by decide +kernel
theorem kX12_hall_8 : zB cX12_hall 8 11 13 (.ifCond .eq 5) 5 := by decide +kernel
theorem kX12_hall_11 : zD cX12_hall 11 12 (.iload_n 2) 1 := by decide +kernel
theorem kX12_hall_12 : zD cX12_hall 12 13 (.ireturn) 1 := by decide +kernel
theorem kX12_hall_13 : zD cX12_hall 13 14 (.aload_n 0) 1 := by decide +kernel
theorem kX12_hall_14 : zD cX12_hall 14 16 (.bipush 100) 2 := by decide +kernel
theorem kX12_hall_16 : zD cX12_hall 16 17 (.iload_n 1) 1 := by decide +kernel
theorem kX12_hall_17 : zD cX12_hall 17 18 (.imul) 1 := by decide +kernel
theorem kX12_hall_18 : zD cX12_hall 18 21 (.putfield 120) 3 := by decide +kernel
theorem kX12_hall_21 : zD cX12_hall 21 22 (.aload_n 0) 1 := by decide +kernel
theorem kX12_hall_22 : zD cX12_hall 22 23 (.aload_n 0) 1 := by decide +kernel
theorem kX12_hall_23 : zD cX12_hall 23 26 (.getfield 47) 3 := by decide +kernel
theorem kX12_hall_26 : zD cX12_hall 26 27 (.iload_n 1) 1 := by decide +kernel
theorem kX12_hall_27 : zD cX12_hall 27 28 (.iaload) 1 := by decide +kernel
theorem kX12_hall_28 : zD cX12_hall 28 31 (.putfield 117) 3 := by decide +kernel
theorem kX12_hall_31 : zD cX12_hall 31 32 (.aload_n 0) 1 := by decide +kernel
theorem kX12_hall_32 : zD cX12_hall 32 33 (.iconst 0) 1 := by decide +kernel
theorem kX12_hall_33 : zD cX12_hall 33 36 (.putfield 114) 3 := by decide +kernel
theorem kX12_hall_36 : zD cX12_hall 36 37 (.iconst 0) 1 := by decide +kernel
theorem kX12_hall_37 : zD cX12_hall 37 38 (.istore_n 3) 1 := by decide +kernel
theorem kX12_hall_38 : zD cX12_hall 38 39 (.iconst 0) 1 := by decide +kernel
theorem kX12_hall_39 : zD cX12_hall 39 41 (.istore 4) 2 := by decide +kernel
theorem kX12_hall_41 : zD cX12_hall 41 42 (.aload_n 0) 1 := by decide +kernel
theorem kX12_hall_42 : zD cX12_hall 42 45 (.invokevirtual 143) 3 := by decide +kernel
theorem kX12_hall_45 : zB cX12_hall 45 48 58 (.ifCond .ne 13) 13 := by decide +kernel
theorem kX12_hall_48 : zD cX12_hall 48 51 (.sipush (-1000)) 3 := by decide +kernel
theorem kX12_hall_51 : zD cX12_hall 51 52 (.aload_n 0) 1 := by decide +kernel
theorem kX12_hall_52 : zD cX12_hall 52 55 (.getfield 114) 3 := by decide +kernel
theorem kX12_hall_55 : zD cX12_hall 55 56 (.isub) 1 := by decide +kernel
theorem kX12_hall_56 : zD cX12_hall 56 58 (.istore 4) 2 := by decide +kernel
theorem kX12_hall_58 : zD cX12_hall 58 61 (.iinc 3 1) 3 := by decide +kernel
theorem kX12_hall_61 : zD cX12_hall 61 63 (.iload 4) 2 := by decide +kernel
theorem kX12_hall_63 : zB cX12_hall 63 66 77 (.ifCond .ne 14) 14 := by decide +kernel
theorem kX12_hall_66 : zD cX12_hall 66 67 (.aload_n 0) 1 := by decide +kernel
theorem kX12_hall_67 : zD cX12_hall 67 70 (.getfield 114) 3 := by decide +kernel
theorem kX12_hall_70 : zD cX12_hall 70 71 (.aload_n 0) 1 := by decide +kernel
theorem kX12_hall_71 : zD cX12_hall 71 74 (.getfield 117) 3 := by decide +kernel
theorem kX12_hall_74 : zB cX12_hall 74 77 41 (.if_icmp .lt (-33)) (-33) := by decide +kernel
theorem kX12_hall_77 : zD cX12_hall 77 78 (.aload_n 0) 1 := by decide +kernel
theorem kX12_hall_78 : zD cX12_hall 78 81 (.getfield 9) 3 := by decide +kernel
theorem kX12_hall_81 : zD cX12_hall 81 82 (.aload_n 0) 1 := by decide +kernel
theorem kX12_hall_82 : zD cX12_hall 82 85 (.getfield 16) 3 := by decide +kernel
theorem kX12_hall_85 : zD cX12_hall 85 88 (.invokestatic 147) 3 := by decide +kernel
theorem kX12_hall_88 : zD cX12_hall 88 89 (.aload_n 0) 1 := by decide +kernel
theorem kX12_hall_89 : zD cX12_hall 89 90 (.iconst 0) 1 := by decide +kernel
theorem kX12_hall_90 : zD cX12_hall 90 93 (.putfield 114) 3 := by decide +kernel
theorem kX12_hall_93 : zD cX12_hall 93 95 (.iload 4) 2 := by decide +kernel
theorem kX12_hall_95 : zB cX12_hall 95 98 161 (.ifCond .ne 66) 66 := by decide +kernel
theorem kX12_hall_98 : zD cX12_hall 98 99 (.aload_n 0) 1 := by decide +kernel
theorem kX12_hall_99 : zD cX12_hall 99 102 (.getfield 114) 3 := by decide +kernel
theorem kX12_hall_102 : zD cX12_hall 102 103 (.aload_n 0) 1 := by decide +kernel
theorem kX12_hall_103 : zD cX12_hall 103 106 (.getfield 117) 3 := by decide +kernel
theorem kX12_hall_106 : zB cX12_hall 106 109 161 (.if_icmp .ge 55) 55 := by decide +kernel
theorem kX12_hall_109 : zD cX12_hall 109 110 (.aload_n 0) 1 := by decide +kernel
theorem kX12_hall_110 : zD cX12_hall 110 113 (.getfield 114) 3 := by decide +kernel
theorem kX12_hall_113 : zD cX12_hall 113 115 (.istore 5) 2 := by decide +kernel
theorem kX12_hall_115 : zD cX12_hall 115 116 (.aload_n 0) 1 := by decide +kernel
theorem kX12_hall_116 : zD cX12_hall 116 119 (.invokevirtual 123) 3 := by decide +kernel
theorem kX12_hall_119 : zD cX12_hall 119 121 (.istore 6) 2 := by decide +kernel
theorem kX12_hall_121 : zD cX12_hall 121 122 (.aload_n 0) 1 := by decide +kernel
theorem kX12_hall_122 : zD cX12_hall 122 125 (.invokevirtual 143) 3 := by decide +kernel
theorem kX12_hall_125 : zD cX12_hall 125 127 (.istore 7) 2 := by decide +kernel
theorem kX12_hall_127 : zD cX12_hall 127 128 (.aload_n 0) 1 := by decide +kernel
theorem kX12_hall_128 : zD cX12_hall 128 130 (.iload 6) 2 := by decide +kernel
theorem kX12_hall_130 : zD cX12_hall 130 133 (.invokevirtual 151) 3 := by decide +kernel
theorem kX12_hall_133 : zB cX12_hall 133 136 139 (.ifCond .eq 6) 6 := by decide +kernel
theorem kX12_hall_136 : zB cX12_hall 136 139 93 (.goto (-43)) (-43) := by decide +kernel
theorem kX12_hall_139 : zD cX12_hall 139 142 (.sipush (-2000)) 3 := by decide +kernel
theorem kX12_hall_142 : zD cX12_hall 142 144 (.iload 5) 2 := by decide +kernel
theorem kX12_hall_144 : zD cX12_hall 144 145 (.isub) 1 := by decide +kernel
theorem kX12_hall_145 : zD cX12_hall 145 147 (.istore 4) 2 := by decide +kernel
theorem kX12_hall_147 : zD cX12_hall 147 148 (.aload_n 0) 1 := by decide +kernel
theorem kX12_hall_148 : zD cX12_hall 148 151 (.getfield 16) 3 := by decide +kernel
theorem kX12_hall_151 : zD cX12_hall 151 152 (.aload_n 0) 1 := by decide +kernel
theorem kX12_hall_152 : zD cX12_hall 152 155 (.getfield 9) 3 := by decide +kernel
theorem kX12_hall_155 : zD cX12_hall 155 158 (.invokestatic 147) 3 := by decide +kernel
theorem kX12_hall_158 : zB cX12_hall 158 161 93 (.goto (-65)) (-65) := by decide +kernel
theorem kX12_hall_161 : zD cX12_hall 161 163 (.iload 4) 2 := by decide +kernel
theorem kX12_hall_163 : zB cX12_hall 163 166 170 (.ifCond .ne 7) 7 := by decide +kernel
theorem kX12_hall_166 : zD cX12_hall 166 167 (.iload_n 3) 1 := by decide +kernel
theorem kX12_hall_167 : zB cX12_hall 167 170 172 (.goto 5) 5 := by decide +kernel
theorem kX12_hall_170 : zD cX12_hall 170 172 (.iload 4) 2 := by decide +kernel
theorem kX12_hall_172 : zD cX12_hall 172 173 (.ireturn) 1 := by decide +kernel
set_option maxRecDepth 10000 in
theorem wX12_hall_0 {G : ZG} {d : Nat} {h : ZH} {Q : Option ZV → ZH → Prop} {x1 : Int32} 
  (H : ((wRowI h x1 (0 : Int32)) = 0 → ∀ h1 : ZH, h1 = zs1 h 5 0 7 (100 * x1) → vp_in x1 8 ∧ ∀ h2 : ZH, h2 = zs1 h1 5 0 8 (h1.1 42 0 x1.toNatClampNeg) → ∀ h3 : ZH, h3 = zs1 h2 5 0 6 0 → zT G (d + 8) mX12_hall 41 [zr 5 0, zi x1, zi (wRowI h x1 (0 : Int32)), zi 0, zi 0, zu, zu, zu] [] h3 Q) ∧ (¬ (wRowI h x1 (0 : Int32)) = 0 → Q (some (zi (wRowI h x1 (0 : Int32)))) h)) :
  zT G (d + 8) mX12_hall 0 [zr 5 0, zi x1, zu, zu, zu, zu, zu, zu] [] h Q := by
  refine zt_aload_n kX12_hall_0 rfl ?_
  refine zt_iload_n kX12_hall_1 rfl ?_
  refine zt_iconst (v := 0) kX12_hall_2 rfl ?_
  refine zt_cV (as := [zi x1, zi 0]) kX12_hall_3 sRX12_140 rfl (by decide) rfl (by simp) rfl (sX12_wrongRow _  ) (fun r h0 hq => ?_)
  obtain ⟨rfl, hh⟩ := hq
  replace hh := hh.symm
  subst hh
  refine zt_istore_n (L' := [zr 5 0, zi x1, zi (wRowI h x1 (0 : Int32)), zu, zu, zu, zu, zu]) kX12_hall_6 (by decide) rfl ?_
  refine zt_iload_n kX12_hall_7 rfl ?_
  refine zt_if_eq kX12_hall_8 (fun c => ?_) (fun c => ?_)
  · replace H := H.1 c
    refine zt_aload_n kX12_hall_13 rfl ?_
    refine zt_bipush (v := 100) kX12_hall_14 rfl ?_
    refine zt_iload_n kX12_hall_16 rfl ?_
    refine zt_imul kX12_hall_17 ?_
    refine zt_put kX12_hall_18 fRX12_120 pRX12_7 rfl (by decide) rfl ?_
    refine zt_heap (fun h1 eh1 => ?_)
    replace H := H h1 eh1
    refine zt_aload_n kX12_hall_21 rfl ?_
    refine zt_aload_n kX12_hall_22 rfl ?_
    refine zt_get (v := zr 42 0) kX12_hall_23 fRX12_47 rfl (by decide) rfl ?_
    refine zt_iload_n kX12_hall_26 rfl ?_
    obtain ⟨hv, H⟩ := H
    refine zt_iald kX12_hall_27 rfl (by decide) hv ?_
    refine zt_put kX12_hall_28 fRX12_117 pRX12_8 rfl (by decide) rfl ?_
    refine zt_heap (fun h2 eh2 => ?_)
    replace H := H h2 eh2
    refine zt_aload_n kX12_hall_31 rfl ?_
    refine zt_iconst (v := 0) kX12_hall_32 rfl ?_
    refine zt_put kX12_hall_33 fRX12_114 pRX12_6 rfl (by decide) rfl ?_
    refine zt_heap (fun h3 eh3 => ?_)
    replace H := H h3 eh3
    refine zt_iconst (v := 0) kX12_hall_36 rfl ?_
    refine zt_istore_n (L' := [zr 5 0, zi x1, zi (wRowI h x1 (0 : Int32)), zi 0, zu, zu, zu, zu]) kX12_hall_37 (by decide) rfl ?_
    refine zt_iconst (v := 0) kX12_hall_38 rfl ?_
    refine zt_istore (L' := [zr 5 0, zi x1, zi (wRowI h x1 (0 : Int32)), zi 0, zi 0, zu, zu, zu]) kX12_hall_39 (by decide) rfl ?_
    exact H
  · replace H := H.2 c
    refine zt_iload_n kX12_hall_11 rfl ?_
    exact zt_iret kX12_hall_12 rfl H

set_option maxRecDepth 10000 in
theorem wX12_hall_41 {G : ZG} {d : Nat} {h : ZH} {Q : Option ZV → ZH → Prop} {x1 : Int32} {x2 : Int32} {x3 : Int32} {x4 : Int32} 
  (H : zC G (d + 7) mX12_readsStatement [zr 5 0] h (fun r2 h1 => ∃ y3 : Int32, r2 = some (zi y3) ∧ (¬ y3 = 0 → (¬ x4 = 0 → zC G (d + 7) mX12_copies [zr 30 0, zr 32 0] h1 (fun r5 h4 => r5 = none ∧ ∀ h6 : ZH, h6 = zs1 h4 5 0 6 0 → zT G (d + 8) mX12_hall 93 [zr 5 0, zi x1, zi x2, zi (x3 + 1), zi x4, zu, zu, zu] [] h6 Q)) ∧ (x4 = 0 → ((h1.1 5 0 6) < (h1.1 5 0 8) → zT G (d + 8) mX12_hall 41 [zr 5 0, zi x1, zi x2, zi (x3 + 1), zi x4, zu, zu, zu] [] h1 Q) ∧ (¬ (h1.1 5 0 6) < (h1.1 5 0 8) → zC G (d + 7) mX12_copies [zr 30 0, zr 32 0] h1 (fun r8 h7 => r8 = none ∧ ∀ h9 : ZH, h9 = zs1 h7 5 0 6 0 → zT G (d + 8) mX12_hall 93 [zr 5 0, zi x1, zi x2, zi (x3 + 1), zi x4, zu, zu, zu] [] h9 Q)))) ∧ (y3 = 0 → (¬ ((-1000) - (h1.1 5 0 6)) = 0 → zC G (d + 7) mX12_copies [zr 30 0, zr 32 0] h1 (fun r11 h10 => r11 = none ∧ ∀ h12 : ZH, h12 = zs1 h10 5 0 6 0 → zT G (d + 8) mX12_hall 93 [zr 5 0, zi x1, zi x2, zi (x3 + 1), zi ((-1000) - (h1.1 5 0 6)), zu, zu, zu] [] h12 Q)) ∧ (((-1000) - (h1.1 5 0 6)) = 0 → ((h1.1 5 0 6) < (h1.1 5 0 8) → zT G (d + 8) mX12_hall 41 [zr 5 0, zi x1, zi x2, zi (x3 + 1), zi ((-1000) - (h1.1 5 0 6)), zu, zu, zu] [] h1 Q) ∧ (¬ (h1.1 5 0 6) < (h1.1 5 0 8) → zC G (d + 7) mX12_copies [zr 30 0, zr 32 0] h1 (fun r14 h13 => r14 = none ∧ ∀ h15 : ZH, h15 = zs1 h13 5 0 6 0 → zT G (d + 8) mX12_hall 93 [zr 5 0, zi x1, zi x2, zi (x3 + 1), zi ((-1000) - (h1.1 5 0 6)), zu, zu, zu] [] h15 Q)))))) :
  zT G (d + 8) mX12_hall 41 [zr 5 0, zi x1, zi x2, zi x3, zi x4, zu, zu, zu] [] h Q := by
  refine zt_aload_n kX12_hall_41 rfl ?_
  refine zt_cV (as := []) kX12_hall_42 sRX12_143 rfl (by decide) rfl (by simp) rfl H (fun r2 h1 H => ?_)
  obtain ⟨y3, rfl, H⟩ := H
  refine zt_if_ne kX12_hall_45 (fun c => ?_) (fun c => ?_)
  · replace H := H.1 c
    refine zt_iinc (v := (x3 + 1)) (L' := [zr 5 0, zi x1, zi x2, zi (x3 + 1), zi x4, zu, zu, zu]) kX12_hall_58 rfl rfl (by decide) rfl ?_
    refine zt_iload kX12_hall_61 rfl ?_
    refine zt_if_ne kX12_hall_63 (fun c => ?_) (fun c => ?_)
    · replace H := H.1 c
      refine zt_aload_n kX12_hall_77 rfl ?_
      refine zt_get (v := zr 30 0) kX12_hall_78 fRX12_9 rfl (by decide) rfl ?_
      refine zt_aload_n kX12_hall_81 rfl ?_
      refine zt_get (v := zr 32 0) kX12_hall_82 fRX12_16 rfl (by decide) rfl ?_
      refine zt_cS (as := [zr 30 0, zr 32 0]) kX12_hall_85 sRX12_147 rfl (by simp) rfl H (fun r5 h4 H => ?_)
      obtain ⟨rfl, H⟩ := H
      refine zt_aload_n kX12_hall_88 rfl ?_
      refine zt_iconst (v := 0) kX12_hall_89 rfl ?_
      refine zt_put kX12_hall_90 fRX12_114 pRX12_6 rfl (by decide) rfl ?_
      refine zt_heap (fun h6 eh6 => ?_)
      replace H := H h6 eh6
      exact H
    · replace H := H.2 c
      refine zt_aload_n kX12_hall_66 rfl ?_
      refine zt_get (v := zi (h1.1 5 0 6)) kX12_hall_67 fRX12_114 rfl (by decide) rfl ?_
      refine zt_aload_n kX12_hall_70 rfl ?_
      refine zt_get (v := zi (h1.1 5 0 8)) kX12_hall_71 fRX12_117 rfl (by decide) rfl ?_
      refine zt_icmp_lt kX12_hall_74 (fun c => ?_) (fun c => ?_)
      · replace H := H.1 c
        exact H
      · replace H := H.2 c
        refine zt_aload_n kX12_hall_77 rfl ?_
        refine zt_get (v := zr 30 0) kX12_hall_78 fRX12_9 rfl (by decide) rfl ?_
        refine zt_aload_n kX12_hall_81 rfl ?_
        refine zt_get (v := zr 32 0) kX12_hall_82 fRX12_16 rfl (by decide) rfl ?_
        refine zt_cS (as := [zr 30 0, zr 32 0]) kX12_hall_85 sRX12_147 rfl (by simp) rfl H (fun r8 h7 H => ?_)
        obtain ⟨rfl, H⟩ := H
        refine zt_aload_n kX12_hall_88 rfl ?_
        refine zt_iconst (v := 0) kX12_hall_89 rfl ?_
        refine zt_put kX12_hall_90 fRX12_114 pRX12_6 rfl (by decide) rfl ?_
        refine zt_heap (fun h9 eh9 => ?_)
        replace H := H h9 eh9
        exact H
  · replace H := H.2 c
    refine zt_sipush (v := (-1000)) kX12_hall_48 rfl ?_
    refine zt_aload_n kX12_hall_51 rfl ?_
    refine zt_get (v := zi (h1.1 5 0 6)) kX12_hall_52 fRX12_114 rfl (by decide) rfl ?_
    refine zt_isub kX12_hall_55 ?_
    refine zt_istore (L' := [zr 5 0, zi x1, zi x2, zi x3, zi ((-1000) - (h1.1 5 0 6)), zu, zu, zu]) kX12_hall_56 (by decide) rfl ?_
    refine zt_iinc (v := (x3 + 1)) (L' := [zr 5 0, zi x1, zi x2, zi (x3 + 1), zi ((-1000) - (h1.1 5 0 6)), zu, zu, zu]) kX12_hall_58 rfl rfl (by decide) rfl ?_
    refine zt_iload kX12_hall_61 rfl ?_
    refine zt_if_ne kX12_hall_63 (fun c => ?_) (fun c => ?_)
    · replace H := H.1 c
      refine zt_aload_n kX12_hall_77 rfl ?_
      refine zt_get (v := zr 30 0) kX12_hall_78 fRX12_9 rfl (by decide) rfl ?_
      refine zt_aload_n kX12_hall_81 rfl ?_
      refine zt_get (v := zr 32 0) kX12_hall_82 fRX12_16 rfl (by decide) rfl ?_
      refine zt_cS (as := [zr 30 0, zr 32 0]) kX12_hall_85 sRX12_147 rfl (by simp) rfl H (fun r11 h10 H => ?_)
      obtain ⟨rfl, H⟩ := H
      refine zt_aload_n kX12_hall_88 rfl ?_
      refine zt_iconst (v := 0) kX12_hall_89 rfl ?_
      refine zt_put kX12_hall_90 fRX12_114 pRX12_6 rfl (by decide) rfl ?_
      refine zt_heap (fun h12 eh12 => ?_)
      replace H := H h12 eh12
      exact H
    · replace H := H.2 c
      refine zt_aload_n kX12_hall_66 rfl ?_
      refine zt_get (v := zi (h1.1 5 0 6)) kX12_hall_67 fRX12_114 rfl (by decide) rfl ?_
      refine zt_aload_n kX12_hall_70 rfl ?_
      refine zt_get (v := zi (h1.1 5 0 8)) kX12_hall_71 fRX12_117 rfl (by decide) rfl ?_
      refine zt_icmp_lt kX12_hall_74 (fun c => ?_) (fun c => ?_)
      · replace H := H.1 c
        exact H
      · replace H := H.2 c
        refine zt_aload_n kX12_hall_77 rfl ?_
        refine zt_get (v := zr 30 0) kX12_hall_78 fRX12_9 rfl (by decide) rfl ?_
        refine zt_aload_n kX12_hall_81 rfl ?_
        refine zt_get (v := zr 32 0) kX12_hall_82 fRX12_16 rfl (by decide) rfl ?_
        refine zt_cS (as := [zr 30 0, zr 32 0]) kX12_hall_85 sRX12_147 rfl (by simp) rfl H (fun r14 h13 H => ?_)
        obtain ⟨rfl, H⟩ := H
        refine zt_aload_n kX12_hall_88 rfl ?_
        refine zt_iconst (v := 0) kX12_hall_89 rfl ?_
        refine zt_put kX12_hall_90 fRX12_114 pRX12_6 rfl (by decide) rfl ?_
        refine zt_heap (fun h15 eh15 => ?_)
        replace H := H h15 eh15
        exact H

set_option maxRecDepth 10000 in
theorem wX12_hall_93 {G : ZG} {d : Nat} {h : ZH} {Q : Option ZV → ZH → Prop} {x1 : Int32} {x2 : Int32} {x3 : Int32} {x4 : Int32} 
  (H : (¬ x4 = 0 → (¬ x4 = 0 → Q (some (zi x4)) h) ∧ (x4 = 0 → Q (some (zi x3)) h)) ∧ (x4 = 0 → ((h.1 5 0 8) ≤ (h.1 5 0 6) → (¬ x4 = 0 → Q (some (zi x4)) h) ∧ (x4 = 0 → Q (some (zi x3)) h)) ∧ (¬ (h.1 5 0 8) ≤ (h.1 5 0 6) → zC G (d + 7) mX12_here [zr 5 0] h (fun r2 h1 => ∃ y3 : Int32, r2 = some (zi y3) ∧ zC G (d + 7) mX12_readsStatement [zr 5 0] h1 (fun r5 h4 => ∃ y6 : Int32, r5 = some (zi y6) ∧ zC G (d + 7) mX12_isDone [zr 5 0, zi y3] h4 (fun r8 h7 => ∃ y9 : Int32, r8 = some (zi y9) ∧ (y9 = 0 → zC G (d + 7) mX12_copies [zr 32 0, zr 30 0] h7 (fun r11 h10 => r11 = none ∧ zT G (d + 8) mX12_hall 93 [zr 5 0, zi x1, zi x2, zi x3, zi ((-2000) - (h.1 5 0 6)), zu, zu, zu] [] h10 Q)) ∧ (¬ y9 = 0 → zT G (d + 8) mX12_hall 93 [zr 5 0, zi x1, zi x2, zi x3, zi x4, zu, zu, zu] [] h7 Q))))))) :
  zT G (d + 8) mX12_hall 93 [zr 5 0, zi x1, zi x2, zi x3, zi x4, zu, zu, zu] [] h Q := by
  refine zt_iload kX12_hall_93 rfl ?_
  refine zt_if_ne kX12_hall_95 (fun c => ?_) (fun c => ?_)
  · replace H := H.1 c
    refine zt_iload kX12_hall_161 rfl ?_
    refine zt_if_ne kX12_hall_163 (fun c => ?_) (fun c => ?_)
    · replace H := H.1 c
      refine zt_iload kX12_hall_170 rfl ?_
      exact zt_iret kX12_hall_172 rfl H
    · replace H := H.2 c
      refine zt_iload_n kX12_hall_166 rfl ?_
      refine zt_goto kX12_hall_167 ?_
      exact zt_iret kX12_hall_172 rfl H
  · replace H := H.2 c
    refine zt_aload_n kX12_hall_98 rfl ?_
    refine zt_get (v := zi (h.1 5 0 6)) kX12_hall_99 fRX12_114 rfl (by decide) rfl ?_
    refine zt_aload_n kX12_hall_102 rfl ?_
    refine zt_get (v := zi (h.1 5 0 8)) kX12_hall_103 fRX12_117 rfl (by decide) rfl ?_
    refine zt_icmp_ge kX12_hall_106 (fun c => ?_) (fun c => ?_)
    · replace H := H.1 c
      refine zt_iload kX12_hall_161 rfl ?_
      refine zt_if_ne kX12_hall_163 (fun c => ?_) (fun c => ?_)
      · replace H := H.1 c
        refine zt_iload kX12_hall_170 rfl ?_
        exact zt_iret kX12_hall_172 rfl H
      · replace H := H.2 c
        refine zt_iload_n kX12_hall_166 rfl ?_
        refine zt_goto kX12_hall_167 ?_
        exact zt_iret kX12_hall_172 rfl H
    · replace H := H.2 c
      refine zt_aload_n kX12_hall_109 rfl ?_
      refine zt_get (v := zi (h.1 5 0 6)) kX12_hall_110 fRX12_114 rfl (by decide) rfl ?_
      refine zt_istore (L' := [zr 5 0, zi x1, zi x2, zi x3, zi x4, zi (h.1 5 0 6), zu, zu]) kX12_hall_113 (by decide) rfl ?_
      refine zt_aload_n kX12_hall_115 rfl ?_
      refine zt_cV (as := []) kX12_hall_116 sRX12_123 rfl (by decide) rfl (by simp) rfl H (fun r2 h1 H => ?_)
      obtain ⟨y3, rfl, H⟩ := H
      refine zt_istore (L' := [zr 5 0, zi x1, zi x2, zi x3, zi x4, zi (h.1 5 0 6), zi y3, zu]) kX12_hall_119 (by decide) rfl ?_
      refine zt_aload_n kX12_hall_121 rfl ?_
      refine zt_cV (as := []) kX12_hall_122 sRX12_143 rfl (by decide) rfl (by simp) rfl H (fun r5 h4 H => ?_)
      obtain ⟨y6, rfl, H⟩ := H
      refine zt_istore (L' := [zr 5 0, zi x1, zi x2, zi x3, zi x4, zi (h.1 5 0 6), zi y3, zi y6]) kX12_hall_125 (by decide) rfl ?_
      refine zt_aload_n kX12_hall_127 rfl ?_
      refine zt_iload kX12_hall_128 rfl ?_
      refine zt_cV (as := [zi y3]) kX12_hall_130 sRX12_151 rfl (by decide) rfl (by simp) rfl H (fun r8 h7 H => ?_)
      obtain ⟨y9, rfl, H⟩ := H
      refine zt_if_eq kX12_hall_133 (fun c => ?_) (fun c => ?_)
      · replace H := H.1 c
        refine zt_sipush (v := (-2000)) kX12_hall_139 rfl ?_
        refine zt_iload kX12_hall_142 rfl ?_
        refine zt_isub kX12_hall_144 ?_
        refine zt_istore (L' := [zr 5 0, zi x1, zi x2, zi x3, zi ((-2000) - (h.1 5 0 6)), zi (h.1 5 0 6), zi y3, zi y6]) kX12_hall_145 (by decide) rfl ?_
        refine zt_aload_n kX12_hall_147 rfl ?_
        refine zt_get (v := zr 32 0) kX12_hall_148 fRX12_16 rfl (by decide) rfl ?_
        refine zt_aload_n kX12_hall_151 rfl ?_
        refine zt_get (v := zr 30 0) kX12_hall_152 fRX12_9 rfl (by decide) rfl ?_
        refine zt_cS (as := [zr 32 0, zr 30 0]) kX12_hall_155 sRX12_147 rfl (by simp) rfl H (fun r11 h10 H => ?_)
        obtain ⟨rfl, H⟩ := H
        refine zt_goto kX12_hall_158 ?_
        exact zt_sub [zr 5 0, zi x1, zi x2, zi x3, zi ((-2000) - (h.1 5 0 6)), zu, zu, zu] ⟨rfl, ⟨rfl, ⟨rfl, ⟨rfl, ⟨rfl, trivial⟩⟩⟩⟩⟩ H
      · replace H := H.2 c
        refine zt_goto kX12_hall_136 ?_
        exact zt_sub [zr 5 0, zi x1, zi x2, zi x3, zi x4, zu, zu, zu] ⟨rfl, ⟨rfl, ⟨rfl, ⟨rfl, ⟨rfl, trivial⟩⟩⟩⟩⟩ H

theorem kX11_firstBadByte_0 : zD cX11_firstBadByte 0 1 (.iconst 0) 1 := by decide +kernel
theorem kX11_firstBadByte_1 : zD cX11_firstBadByte 1 2 (.istore_n 1) 1 := by decide +kernel
theorem kX11_firstBadByte_2 : zD cX11_firstBadByte 2 3 (.iconst 0) 1 := by decide +kernel
theorem kX11_firstBadByte_3 : zD cX11_firstBadByte 3 4 (.istore_n 2) 1 := by decide +kernel
theorem kX11_firstBadByte_4 : zD cX11_firstBadByte 4 5 (.iload_n 2) 1 := by decide +kernel
theorem kX11_firstBadByte_5 : zD cX11_firstBadByte 5 7 (.bipush 100) 2 := by decide +kernel
theorem kX11_firstBadByte_7 : zB cX11_firstBadByte 7 10 99 (.if_icmp .gt 92) 92 := by decide +kernel
theorem kX11_firstBadByte_10 : zD cX11_firstBadByte 10 11 (.aload_n 0) 1 := by decide +kernel
theorem kX11_firstBadByte_11 : zD cX11_firstBadByte 11 12 (.iload_n 1) 1 := by decide +kernel
theorem kX11_firstBadByte_12 : zD cX11_firstBadByte 12 15 (.invokevirtual 244) 3 := by decide +kernel
theorem kX11_firstBadByte_15 : zD cX11_firstBadByte 15 18 (.invokestatic 342) 3 := by decide +kernel
theorem kX11_firstBadByte_18 : zD cX11_firstBadByte 18 19 (.istore_n 3) 1 := by decide +kernel
theorem kX11_firstBadByte_19 : zD cX11_firstBadByte 19 20 (.iload_n 3) 1 := by decide +kernel
theorem kX11_firstBadByte_20 : zB cX11_firstBadByte 20 23 25 (.ifCond .ne 5) 5 := by decide +kernel
theorem kX11_firstBadByte_23 : zD cX11_firstBadByte 23 24 (.iload_n 1) 1 := by decide +kernel
theorem kX11_firstBadByte_24 : zD cX11_firstBadByte 24 25 (.ireturn) 1 := by decide +kernel
theorem kX11_firstBadByte_25 : zD cX11_firstBadByte 25 26 (.iconst 0) 1 := by decide +kernel
theorem kX11_firstBadByte_26 : zD cX11_firstBadByte 26 28 (.istore 4) 2 := by decide +kernel
theorem kX11_firstBadByte_28 : zD cX11_firstBadByte 28 30 (.iload 4) 2 := by decide +kernel
theorem kX11_firstBadByte_30 : zD cX11_firstBadByte 30 31 (.iload_n 3) 1 := by decide +kernel
theorem kX11_firstBadByte_31 : zB cX11_firstBadByte 31 34 65 (.if_icmp .ge 34) 34 := by decide +kernel
theorem kX11_firstBadByte_34 : zD cX11_firstBadByte 34 37 (.iinc 1 1) 3 := by decide +kernel
theorem kX11_firstBadByte_37 : zD cX11_firstBadByte 37 38 (.aload_n 0) 1 := by decide +kernel
theorem kX11_firstBadByte_38 : zD cX11_firstBadByte 38 39 (.iload_n 1) 1 := by decide +kernel
theorem kX11_firstBadByte_39 : zD cX11_firstBadByte 39 42 (.invokevirtual 244) 3 := by decide +kernel
theorem kX11_firstBadByte_42 : zD cX11_firstBadByte 42 44 (.bipush 48) 2 := by decide +kernel
theorem kX11_firstBadByte_44 : zB cX11_firstBadByte 44 47 57 (.if_icmp .lt 13) 13 := by decide +kernel
theorem kX11_firstBadByte_47 : zD cX11_firstBadByte 47 48 (.aload_n 0) 1 := by decide +kernel
theorem kX11_firstBadByte_48 : zD cX11_firstBadByte 48 49 (.iload_n 1) 1 := by decide +kernel
theorem kX11_firstBadByte_49 : zD cX11_firstBadByte 49 52 (.invokevirtual 244) 3 := by decide +kernel
theorem kX11_firstBadByte_52 : zD cX11_firstBadByte 52 54 (.bipush 57) 2 := by decide +kernel
theorem kX11_firstBadByte_54 : zB cX11_firstBadByte 54 57 59 (.if_icmp .le 5) 5 := by decide +kernel
theorem kX11_firstBadByte_57 : zD cX11_firstBadByte 57 58 (.iload_n 1) 1 := by decide +kernel
theorem kX11_firstBadByte_58 : zD cX11_firstBadByte 58 59 (.ireturn) 1 := by decide +kernel
theorem kX11_firstBadByte_59 : zD cX11_firstBadByte 59 62 (.iinc 4 1) 3 := by decide +kernel
theorem kX11_firstBadByte_62 : zB cX11_firstBadByte 62 65 28 (.goto (-34)) (-34) := by decide +kernel
theorem kX11_firstBadByte_65 : zD cX11_firstBadByte 65 68 (.iinc 1 1) 3 := by decide +kernel
theorem kX11_firstBadByte_68 : zD cX11_firstBadByte 68 69 (.aload_n 0) 1 := by decide +kernel
theorem kX11_firstBadByte_69 : zD cX11_firstBadByte 69 70 (.iload_n 1) 1 := by decide +kernel
theorem kX11_firstBadByte_70 : zD cX11_firstBadByte 70 73 (.invokevirtual 244) 3 := by decide +kernel
theorem kX11_firstBadByte_73 : zD cX11_firstBadByte 73 75 (.bipush 59) 2 := by decide +kernel
theorem kX11_firstBadByte_75 : zB cX11_firstBadByte 75 78 80 (.if_icmp .eq 5) 5 := by decide +kernel
theorem kX11_firstBadByte_78 : zD cX11_firstBadByte 78 79 (.iload_n 1) 1 := by decide +kernel
theorem kX11_firstBadByte_79 : zD cX11_firstBadByte 79 80 (.ireturn) 1 := by decide +kernel
theorem kX11_firstBadByte_80 : zD cX11_firstBadByte 80 83 (.iinc 1 1) 3 := by decide +kernel
theorem kX11_firstBadByte_83 : zD cX11_firstBadByte 83 84 (.iload_n 1) 1 := by decide +kernel
theorem kX11_firstBadByte_84 : zD cX11_firstBadByte 84 85 (.aload_n 0) 1 := by decide +kernel
theorem kX11_firstBadByte_85 : zD cX11_firstBadByte 85 88 (.getfield 241) 3 := by decide +kernel
theorem kX11_firstBadByte_88 : zB cX11_firstBadByte 88 91 93 (.if_icmp .lt 5) 5 := by decide +kernel
theorem kX11_firstBadByte_91 : zD cX11_firstBadByte 91 92 (.iconst (-1)) 1 := by decide +kernel
theorem kX11_firstBadByte_92 : zD cX11_firstBadByte 92 93 (.ireturn) 1 := by decide +kernel
theorem kX11_firstBadByte_93 : zD cX11_firstBadByte 93 96 (.iinc 2 1) 3 := by decide +kernel
theorem kX11_firstBadByte_96 : zB cX11_firstBadByte 96 99 4 (.goto (-92)) (-92) := by decide +kernel
theorem kX11_firstBadByte_99 : zD cX11_firstBadByte 99 100 (.iload_n 1) 1 := by decide +kernel
theorem kX11_firstBadByte_100 : zD cX11_firstBadByte 100 101 (.ireturn) 1 := by decide +kernel
set_option maxRecDepth 10000 in
theorem wX11_firstBadByte_0 {G : ZG} {d : Nat} {h : ZH} {Q : Option ZV → ZH → Prop} {i0 : Nat} (hi0 : i0 < zcnt 3)
  (H : zT G (d + 3) mX11_firstBadByte 4 [zr 3 i0, zi 0, zi 0, zu, zu] [] h Q) :
  zT G (d + 3) mX11_firstBadByte 0 [zr 3 i0, zu, zu, zu, zu] [] h Q := by
  refine zt_iconst (v := 0) kX11_firstBadByte_0 rfl ?_
  refine zt_istore_n (L' := [zr 3 i0, zi 0, zu, zu, zu]) kX11_firstBadByte_1 (by decide) rfl ?_
  refine zt_iconst (v := 0) kX11_firstBadByte_2 rfl ?_
  refine zt_istore_n (L' := [zr 3 i0, zi 0, zi 0, zu, zu]) kX11_firstBadByte_3 (by decide) rfl ?_
  exact H

set_option maxRecDepth 10000 in
theorem wX11_firstBadByte_4 {G : ZG} {d : Nat} {h : ZH} {Q : Option ZV → ZH → Prop} {i0 : Nat} {x1 : Int32} {x2 : Int32} (hi0 : i0 < zcnt 3)
  (H : (100 < x2 → Q (some (zi x1)) h) ∧ (¬ 100 < x2 → h.1 3 i0 4 ≤ 100 ∧ ((¬ (dbI (shAt h i0 x1)) = 0 → zT G (d + 3) mX11_firstBadByte 28 [zr 3 i0, zi x1, zi x2, zi (dbI (shAt h i0 x1)), zi 0] [] h Q) ∧ ((dbI (shAt h i0 x1)) = 0 → Q (some (zi x1)) h)))) :
  zT G (d + 3) mX11_firstBadByte 4 [zr 3 i0, zi x1, zi x2, zu, zu] [] h Q := by
  refine zt_iload_n kX11_firstBadByte_4 rfl ?_
  refine zt_bipush (v := 100) kX11_firstBadByte_5 rfl ?_
  refine zt_icmp_gt kX11_firstBadByte_7 (fun c => ?_) (fun c => ?_)
  · replace H := H.1 c
    refine zt_iload_n kX11_firstBadByte_99 rfl ?_
    exact zt_iret kX11_firstBadByte_100 rfl H
  · replace H := H.2 c
    refine zt_aload_n kX11_firstBadByte_10 rfl ?_
    refine zt_iload_n kX11_firstBadByte_11 rfl ?_
    obtain ⟨pp0, H⟩ := H
    refine zt_cV (as := [zi x1]) kX11_firstBadByte_12 sRX11_244 rfl hi0 rfl (by simp) rfl (sX8_at _ hi0 pp0) (fun r h0 hq => ?_)
    obtain ⟨rfl, hh⟩ := hq
    replace hh := hh.symm
    subst hh
    refine zt_cS (as := [zi (shAt h i0 x1)]) kX11_firstBadByte_15 sRX11_342 rfl (by simp) rfl (sX11_digitsBehind _  ) (fun r h0 hq => ?_)
    obtain ⟨rfl, hh⟩ := hq
    replace hh := hh.symm
    subst hh
    refine zt_istore_n (L' := [zr 3 i0, zi x1, zi x2, zi (dbI (shAt h i0 x1)), zu]) kX11_firstBadByte_18 (by decide) rfl ?_
    refine zt_iload_n kX11_firstBadByte_19 rfl ?_
    refine zt_if_ne kX11_firstBadByte_20 (fun c => ?_) (fun c => ?_)
    · replace H := H.1 c
      refine zt_iconst (v := 0) kX11_firstBadByte_25 rfl ?_
      refine zt_istore (L' := [zr 3 i0, zi x1, zi x2, zi (dbI (shAt h i0 x1)), zi 0]) kX11_firstBadByte_26 (by decide) rfl ?_
      exact H
    · replace H := H.2 c
      refine zt_iload_n kX11_firstBadByte_23 rfl ?_
      exact zt_iret kX11_firstBadByte_24 rfl H

set_option maxRecDepth 10000 in
theorem wX11_firstBadByte_28 {G : ZG} {d : Nat} {h : ZH} {Q : Option ZV → ZH → Prop} {i0 : Nat} {x1 : Int32} {x2 : Int32} {x3 : Int32} {x4 : Int32} (hi0 : i0 < zcnt 3)
  (H : (x3 ≤ x4 → h.1 3 i0 4 ≤ 100 ∧ (((shAt h i0 (x1 + 1)) = 59 → (((x1 + 1) + 1) < (h.1 3 i0 4) → zT G (d + 3) mX11_firstBadByte 4 [zr 3 i0, zi ((x1 + 1) + 1), zi (x2 + 1), zu, zu] [] h Q) ∧ (¬ ((x1 + 1) + 1) < (h.1 3 i0 4) → Q (some (zi (-1))) h)) ∧ (¬ (shAt h i0 (x1 + 1)) = 59 → Q (some (zi (x1 + 1))) h))) ∧ (¬ x3 ≤ x4 → h.1 3 i0 4 ≤ 100 ∧ (((shAt h i0 (x1 + 1)) < 48 → Q (some (zi (x1 + 1))) h) ∧ (¬ (shAt h i0 (x1 + 1)) < 48 → h.1 3 i0 4 ≤ 100 ∧ (((shAt h i0 (x1 + 1)) ≤ 57 → zT G (d + 3) mX11_firstBadByte 28 [zr 3 i0, zi (x1 + 1), zi x2, zi x3, zi (x4 + 1)] [] h Q) ∧ (¬ (shAt h i0 (x1 + 1)) ≤ 57 → Q (some (zi (x1 + 1))) h)))))) :
  zT G (d + 3) mX11_firstBadByte 28 [zr 3 i0, zi x1, zi x2, zi x3, zi x4] [] h Q := by
  refine zt_iload kX11_firstBadByte_28 rfl ?_
  refine zt_iload_n kX11_firstBadByte_30 rfl ?_
  refine zt_icmp_ge kX11_firstBadByte_31 (fun c => ?_) (fun c => ?_)
  · replace H := H.1 c
    refine zt_iinc (v := (x1 + 1)) (L' := [zr 3 i0, zi (x1 + 1), zi x2, zi x3, zi x4]) kX11_firstBadByte_65 rfl rfl (by decide) rfl ?_
    refine zt_aload_n kX11_firstBadByte_68 rfl ?_
    refine zt_iload_n kX11_firstBadByte_69 rfl ?_
    obtain ⟨pp0, H⟩ := H
    refine zt_cV (as := [zi (x1 + 1)]) kX11_firstBadByte_70 sRX11_244 rfl hi0 rfl (by simp) rfl (sX8_at _ hi0 pp0) (fun r h0 hq => ?_)
    obtain ⟨rfl, hh⟩ := hq
    replace hh := hh.symm
    subst hh
    refine zt_bipush (v := 59) kX11_firstBadByte_73 rfl ?_
    refine zt_icmp_eq kX11_firstBadByte_75 (fun c => ?_) (fun c => ?_)
    · replace H := H.1 c
      refine zt_iinc (v := ((x1 + 1) + 1)) (L' := [zr 3 i0, zi ((x1 + 1) + 1), zi x2, zi x3, zi x4]) kX11_firstBadByte_80 rfl rfl (by decide) rfl ?_
      refine zt_iload_n kX11_firstBadByte_83 rfl ?_
      refine zt_aload_n kX11_firstBadByte_84 rfl ?_
      refine zt_get (v := zi (h.1 3 i0 4)) kX11_firstBadByte_85 fRX11_241 rfl hi0 rfl ?_
      refine zt_icmp_lt kX11_firstBadByte_88 (fun c => ?_) (fun c => ?_)
      · replace H := H.1 c
        refine zt_iinc (v := (x2 + 1)) (L' := [zr 3 i0, zi ((x1 + 1) + 1), zi (x2 + 1), zi x3, zi x4]) kX11_firstBadByte_93 rfl rfl (by decide) rfl ?_
        refine zt_goto kX11_firstBadByte_96 ?_
        exact zt_sub [zr 3 i0, zi ((x1 + 1) + 1), zi (x2 + 1), zu, zu] ⟨rfl, ⟨rfl, ⟨rfl, trivial⟩⟩⟩ H
      · replace H := H.2 c
        refine zt_iconst (v := (-1)) kX11_firstBadByte_91 rfl ?_
        exact zt_iret kX11_firstBadByte_92 rfl H
    · replace H := H.2 c
      refine zt_iload_n kX11_firstBadByte_78 rfl ?_
      exact zt_iret kX11_firstBadByte_79 rfl H
  · replace H := H.2 c
    refine zt_iinc (v := (x1 + 1)) (L' := [zr 3 i0, zi (x1 + 1), zi x2, zi x3, zi x4]) kX11_firstBadByte_34 rfl rfl (by decide) rfl ?_
    refine zt_aload_n kX11_firstBadByte_37 rfl ?_
    refine zt_iload_n kX11_firstBadByte_38 rfl ?_
    obtain ⟨pp0, H⟩ := H
    refine zt_cV (as := [zi (x1 + 1)]) kX11_firstBadByte_39 sRX11_244 rfl hi0 rfl (by simp) rfl (sX8_at _ hi0 pp0) (fun r h0 hq => ?_)
    obtain ⟨rfl, hh⟩ := hq
    replace hh := hh.symm
    subst hh
    refine zt_bipush (v := 48) kX11_firstBadByte_42 rfl ?_
    refine zt_icmp_lt kX11_firstBadByte_44 (fun c => ?_) (fun c => ?_)
    · replace H := H.1 c
      refine zt_iload_n kX11_firstBadByte_57 rfl ?_
      exact zt_iret kX11_firstBadByte_58 rfl H
    · replace H := H.2 c
      refine zt_aload_n kX11_firstBadByte_47 rfl ?_
      refine zt_iload_n kX11_firstBadByte_48 rfl ?_
      obtain ⟨pp0, H⟩ := H
      refine zt_cV (as := [zi (x1 + 1)]) kX11_firstBadByte_49 sRX11_244 rfl hi0 rfl (by simp) rfl (sX8_at _ hi0 pp0) (fun r h0 hq => ?_)
      obtain ⟨rfl, hh⟩ := hq
      replace hh := hh.symm
      subst hh
      refine zt_bipush (v := 57) kX11_firstBadByte_52 rfl ?_
      refine zt_icmp_le kX11_firstBadByte_54 (fun c => ?_) (fun c => ?_)
      · replace H := H.1 c
        refine zt_iinc (v := (x4 + 1)) (L' := [zr 3 i0, zi (x1 + 1), zi x2, zi x3, zi (x4 + 1)]) kX11_firstBadByte_59 rfl rfl (by decide) rfl ?_
        refine zt_goto kX11_firstBadByte_62 ?_
        exact H
      · replace H := H.2 c
        refine zt_iload_n kX11_firstBadByte_57 rfl ?_
        exact zt_iret kX11_firstBadByte_58 rfl H

theorem kX11_doStatement_0 : zD cX11_doStatement 0 2 (.bipush 10) 2 := by decide +kernel
theorem kX11_doStatement_2 : zD cX11_doStatement 2 3 (.aload_n 1) 1 := by decide +kernel
theorem kX11_doStatement_3 : zD cX11_doStatement 3 4 (.iload_n 2) 1 := by decide +kernel
theorem kX11_doStatement_4 : zD cX11_doStatement 4 5 (.iconst 1) 1 := by decide +kernel
theorem kX11_doStatement_5 : zD cX11_doStatement 5 6 (.iadd) 1 := by decide +kernel
theorem kX11_doStatement_6 : zD cX11_doStatement 6 9 (.invokestatic 349) 3 := by decide +kernel
theorem kX11_doStatement_9 : zD cX11_doStatement 9 10 (.imul) 1 := by decide +kernel
theorem kX11_doStatement_10 : zD cX11_doStatement 10 11 (.aload_n 1) 1 := by decide +kernel
theorem kX11_doStatement_11 : zD cX11_doStatement 11 12 (.iload_n 2) 1 := by decide +kernel
theorem kX11_doStatement_12 : zD cX11_doStatement 12 13 (.iconst 2) 1 := by decide +kernel
theorem kX11_doStatement_13 : zD cX11_doStatement 13 14 (.iadd) 1 := by decide +kernel
theorem kX11_doStatement_14 : zD cX11_doStatement 14 17 (.invokestatic 349) 3 := by decide +kernel
theorem kX11_doStatement_17 : zD cX11_doStatement 17 18 (.iadd) 1 := by decide +kernel
theorem kX11_doStatement_18 : zD cX11_doStatement 18 19 (.istore_n 3) 1 := by decide +kernel
theorem kX11_doStatement_19 : zD cX11_doStatement 19 20 (.iload_n 3) 1 := by decide +kernel
theorem kX11_doStatement_20 : zD cX11_doStatement 20 23 (.invokestatic 86) 3 := by decide +kernel
theorem kX11_doStatement_23 : zB cX11_doStatement 23 26 28 (.ifCond .ne 5) 5 := by decide +kernel
theorem kX11_doStatement_26 : zD cX11_doStatement 26 27 (.iconst 0) 1 := by decide +kernel
theorem kX11_doStatement_27 : zD cX11_doStatement 27 28 (.ireturn) 1 := by decide +kernel
theorem kX11_doStatement_28 : zD cX11_doStatement 28 29 (.aload_n 1) 1 := by decide +kernel
theorem kX11_doStatement_29 : zD cX11_doStatement 29 30 (.iload_n 2) 1 := by decide +kernel
theorem kX11_doStatement_30 : zD cX11_doStatement 30 33 (.invokevirtual 244) 3 := by decide +kernel
theorem kX11_doStatement_33 : zD cX11_doStatement 33 35 (.bipush 112) 2 := by decide +kernel
theorem kX11_doStatement_35 : zB cX11_doStatement 35 38 49 (.if_icmp .ne 14) 14 := by decide +kernel
theorem kX11_doStatement_38 : zD cX11_doStatement 38 39 (.aload_n 0) 1 := by decide +kernel
theorem kX11_doStatement_39 : zD cX11_doStatement 39 42 (.getfield 48) 3 := by decide +kernel
theorem kX11_doStatement_42 : zD cX11_doStatement 42 43 (.iload_n 3) 1 := by decide +kernel
theorem kX11_doStatement_43 : zD cX11_doStatement 43 46 (.invokevirtual 133) 3 := by decide +kernel
theorem kX11_doStatement_46 : zD cX11_doStatement 46 47 (.pop) 1 := by decide +kernel
theorem kX11_doStatement_47 : zD cX11_doStatement 47 48 (.iconst 1) 1 := by decide +kernel
theorem kX11_doStatement_48 : zD cX11_doStatement 48 49 (.ireturn) 1 := by decide +kernel
theorem kX11_doStatement_49 : zD cX11_doStatement 49 50 (.aload_n 1) 1 := by decide +kernel
theorem kX11_doStatement_50 : zD cX11_doStatement 50 51 (.iload_n 2) 1 := by decide +kernel
theorem kX11_doStatement_51 : zD cX11_doStatement 51 54 (.invokevirtual 244) 3 := by decide +kernel
theorem kX11_doStatement_54 : zD cX11_doStatement 54 56 (.bipush 120) 2 := by decide +kernel
theorem kX11_doStatement_56 : zB cX11_doStatement 56 59 83 (.if_icmp .ne 27) 27 := by decide +kernel
theorem kX11_doStatement_59 : zD cX11_doStatement 59 60 (.aload_n 0) 1 := by decide +kernel
theorem kX11_doStatement_60 : zD cX11_doStatement 60 63 (.getfield 48) 3 := by decide +kernel
theorem kX11_doStatement_63 : zD cX11_doStatement 63 64 (.iload_n 3) 1 := by decide +kernel
theorem kX11_doStatement_64 : zD cX11_doStatement 64 67 (.invokevirtual 90) 3 := by decide +kernel
theorem kX11_doStatement_67 : zB cX11_doStatement 67 70 72 (.ifCond .ne 5) 5 := by decide +kernel
theorem kX11_doStatement_70 : zD cX11_doStatement 70 71 (.iconst 0) 1 := by decide +kernel
theorem kX11_doStatement_71 : zD cX11_doStatement 71 72 (.ireturn) 1 := by decide +kernel
theorem kX11_doStatement_72 : zD cX11_doStatement 72 73 (.aload_n 0) 1 := by decide +kernel
theorem kX11_doStatement_73 : zD cX11_doStatement 73 76 (.getfield 48) 3 := by decide +kernel
theorem kX11_doStatement_76 : zD cX11_doStatement 76 77 (.iload_n 3) 1 := by decide +kernel
theorem kX11_doStatement_77 : zD cX11_doStatement 77 80 (.invokevirtual 130) 3 := by decide +kernel
theorem kX11_doStatement_80 : zD cX11_doStatement 80 81 (.pop) 1 := by decide +kernel
theorem kX11_doStatement_81 : zD cX11_doStatement 81 82 (.iconst 1) 1 := by decide +kernel
theorem kX11_doStatement_82 : zD cX11_doStatement 82 83 (.ireturn) 1 := by decide +kernel
theorem kX11_doStatement_83 : zD cX11_doStatement 83 84 (.aload_n 1) 1 := by decide +kernel
theorem kX11_doStatement_84 : zD cX11_doStatement 84 85 (.iload_n 2) 1 := by decide +kernel
theorem kX11_doStatement_85 : zD cX11_doStatement 85 86 (.iconst 3) 1 := by decide +kernel
theorem kX11_doStatement_86 : zD cX11_doStatement 86 87 (.iadd) 1 := by decide +kernel
theorem kX11_doStatement_87 : zD cX11_doStatement 87 90 (.invokestatic 349) 3 := by decide +kernel
theorem kX11_doStatement_90 : zD cX11_doStatement 90 92 (.istore 4) 2 := by decide +kernel
theorem kX11_doStatement_92 : zD cX11_doStatement 92 94 (.iload 4) 2 := by decide +kernel
theorem kX11_doStatement_94 : zB cX11_doStatement 94 97 115 (.ifCond .lt 21) 21 := by decide +kernel
theorem kX11_doStatement_97 : zD cX11_doStatement 97 99 (.iload 4) 2 := by decide +kernel
theorem kX11_doStatement_99 : zD cX11_doStatement 99 101 (.bipush 8) 2 := by decide +kernel
theorem kX11_doStatement_101 : zB cX11_doStatement 101 104 115 (.if_icmp .ge 14) 14 := by decide +kernel
theorem kX11_doStatement_104 : zD cX11_doStatement 104 105 (.aload_n 0) 1 := by decide +kernel
theorem kX11_doStatement_105 : zD cX11_doStatement 105 108 (.getfield 48) 3 := by decide +kernel
theorem kX11_doStatement_108 : zD cX11_doStatement 108 109 (.iload_n 3) 1 := by decide +kernel
theorem kX11_doStatement_109 : zD cX11_doStatement 109 112 (.invokevirtual 90) 3 := by decide +kernel
theorem kX11_doStatement_112 : zB cX11_doStatement 112 115 117 (.ifCond .eq 5) 5 := by decide +kernel
theorem kX11_doStatement_115 : zD cX11_doStatement 115 116 (.iconst 0) 1 := by decide +kernel
theorem kX11_doStatement_116 : zD cX11_doStatement 116 117 (.ireturn) 1 := by decide +kernel
theorem kX11_doStatement_117 : zD cX11_doStatement 117 118 (.aload_n 0) 1 := by decide +kernel
theorem kX11_doStatement_118 : zD cX11_doStatement 118 121 (.getfield 48) 3 := by decide +kernel
theorem kX11_doStatement_121 : zD cX11_doStatement 121 122 (.iload_n 3) 1 := by decide +kernel
theorem kX11_doStatement_122 : zD cX11_doStatement 122 124 (.iload 4) 2 := by decide +kernel
theorem kX11_doStatement_124 : zD cX11_doStatement 124 125 (.aload_n 1) 1 := by decide +kernel
theorem kX11_doStatement_125 : zD cX11_doStatement 125 126 (.iload_n 2) 1 := by decide +kernel
theorem kX11_doStatement_126 : zD cX11_doStatement 126 127 (.iconst 4) 1 := by decide +kernel
theorem kX11_doStatement_127 : zD cX11_doStatement 127 128 (.iadd) 1 := by decide +kernel
theorem kX11_doStatement_128 : zD cX11_doStatement 128 131 (.invokestatic 349) 3 := by decide +kernel
theorem kX11_doStatement_131 : zD cX11_doStatement 131 132 (.aload_n 0) 1 := by decide +kernel
theorem kX11_doStatement_132 : zD cX11_doStatement 132 135 (.getfield 33) 3 := by decide +kernel
theorem kX11_doStatement_135 : zD cX11_doStatement 135 137 (.iload 4) 2 := by decide +kernel
theorem kX11_doStatement_137 : zD cX11_doStatement 137 138 (.aaload) 1 := by decide +kernel
theorem kX11_doStatement_138 : zD cX11_doStatement 138 141 (.invokevirtual 123) 3 := by decide +kernel
theorem kX11_doStatement_141 : zD cX11_doStatement 141 142 (.pop) 1 := by decide +kernel
theorem kX11_doStatement_142 : zD cX11_doStatement 142 143 (.iconst 1) 1 := by decide +kernel
theorem kX11_doStatement_143 : zD cX11_doStatement 143 144 (.ireturn) 1 := by decide +kernel
set_option maxRecDepth 10000 in
theorem wX11_doStatement_0 {G : ZG} {d : Nat} {h : ZH} {Q : Option ZV → ZH → Prop} {i1 : Nat} {x2 : Int32} (hi1 : i1 < zcnt 3)
  (H : h.1 3 i1 4 ≤ 100 ∧ (h.1 3 i1 4 ≤ 100 ∧ (∀ y1 : Int32, y1 = ((10 * (shAt h i1 (x2 + 1) - 48)) + (shAt h i1 (x2 + 2) - 48)) → ((0 ≤ y1 ∧ y1 ≤ 11) → h.1 3 i1 4 ≤ 100 ∧ ((¬ (shAt h i1 x2) = 112 → h.1 3 i1 4 ≤ 100 ∧ ((¬ (shAt h i1 x2) = 120 → h.1 3 i1 4 ≤ 100 ∧ (((shAt h i1 (x2 + 3) - 48) < 0 → Q (some (zi 0)) h) ∧ (¬ (shAt h i1 (x2 + 3) - 48) < 0 → (8 ≤ (shAt h i1 (x2 + 3) - 48) → Q (some (zi 0)) h) ∧ (¬ 8 ≤ (shAt h i1 (x2 + 3) - 48) → (¬ (hasI (h.1 2 0 6) y1) → h.1 3 i1 4 ≤ 100 ∧ (vp_in (shAt h i1 (x2 + 3) - 48) 8 ∧ zC G (d + 5) mX4_lay [zr 2 0, zi y1, zi (shAt h i1 (x2 + 3) - 48), zi (shAt h i1 (x2 + 4) - 48), zr 4 ((shAt h i1 (x2 + 3) - 48).toNatClampNeg)] h (fun r4 h3 => ∃ y5 : Int32, r4 = some (zi y5) ∧ Q (some (zi 1)) h3))) ∧ ((hasI (h.1 2 0 6) y1) → Q (some (zi 0)) h))))) ∧ ((shAt h i1 x2) = 120 → ((hasI (h.1 2 0 6) y1) → zC G (d + 5) mX4_takeOut [zr 2 0, zi y1] h (fun r7 h6 => ∃ y8 : Int32, r7 = some (zi y8) ∧ Q (some (zi 1)) h6)) ∧ (¬ (hasI (h.1 2 0 6) y1) → Q (some (zi 0)) h)))) ∧ ((shAt h i1 x2) = 112 → zC G (d + 5) mX4_turnProp [zr 2 0, zi y1] h (fun r10 h9 => ∃ y11 : Int32, r10 = some (zi y11) ∧ Q (some (zi 1)) h9)))) ∧ (¬ (0 ≤ y1 ∧ y1 ≤ 11) → Q (some (zi 0)) h)))) :
  zT G (d + 6) mX11_doStatement 0 [zr 0 0, zr 3 i1, zi x2, zu, zu] [] h Q := by
  refine zt_bipush (v := 10) kX11_doStatement_0 rfl ?_
  refine zt_aload_n kX11_doStatement_2 rfl ?_
  refine zt_iload_n kX11_doStatement_3 rfl ?_
  refine zt_iconst (v := 1) kX11_doStatement_4 rfl ?_
  refine zt_iadd kX11_doStatement_5 ?_
  obtain ⟨pp0, H⟩ := H
  refine zt_cS (as := [zr 3 i1, zi (x2 + 1)]) kX11_doStatement_6 sRX11_349 rfl (by simp) rfl (sX11_digitAt _ hi1 pp0) (fun r h0 hq => ?_)
  obtain ⟨rfl, hh⟩ := hq
  replace hh := hh.symm
  subst hh
  refine zt_imul kX11_doStatement_9 ?_
  refine zt_aload_n kX11_doStatement_10 rfl ?_
  refine zt_iload_n kX11_doStatement_11 rfl ?_
  refine zt_iconst (v := 2) kX11_doStatement_12 rfl ?_
  refine zt_iadd kX11_doStatement_13 ?_
  obtain ⟨pp0, H⟩ := H
  refine zt_cS (as := [zr 3 i1, zi (x2 + 2)]) kX11_doStatement_14 sRX11_349 rfl (by simp) rfl (sX11_digitAt _ hi1 pp0) (fun r h0 hq => ?_)
  obtain ⟨rfl, hh⟩ := hq
  replace hh := hh.symm
  subst hh
  refine zt_iadd kX11_doStatement_17 ?_
  refine zt_topi (fun y1 ey1 => ?_)
  replace H := H y1 ey1
  refine zt_istore_n (L' := [zr 0 0, zr 3 i1, zi x2, zi y1, zu]) kX11_doStatement_18 (by decide) rfl ?_
  refine zt_iload_n kX11_doStatement_19 rfl ?_
  refine zt_cS (as := [zi y1]) kX11_doStatement_20 sRX11_86 rfl (by simp) rfl (sX11_isPlace _  ) (fun r h0 hq => ?_)
  obtain ⟨rfl, hh⟩ := hq
  replace hh := hh.symm
  subst hh
  refine zt_ifb_ne kX11_doStatement_23 (fun c => ?_) (fun c => ?_)
  · replace H := H.1 c
    refine zt_aload_n kX11_doStatement_28 rfl ?_
    refine zt_iload_n kX11_doStatement_29 rfl ?_
    obtain ⟨pp0, H⟩ := H
    refine zt_cV (as := [zi x2]) kX11_doStatement_30 sRX11_244 rfl hi1 rfl (by simp) rfl (sX8_at _ hi1 pp0) (fun r h0 hq => ?_)
    obtain ⟨rfl, hh⟩ := hq
    replace hh := hh.symm
    subst hh
    refine zt_bipush (v := 112) kX11_doStatement_33 rfl ?_
    refine zt_icmp_ne kX11_doStatement_35 (fun c => ?_) (fun c => ?_)
    · replace H := H.1 c
      refine zt_aload_n kX11_doStatement_49 rfl ?_
      refine zt_iload_n kX11_doStatement_50 rfl ?_
      obtain ⟨pp0, H⟩ := H
      refine zt_cV (as := [zi x2]) kX11_doStatement_51 sRX11_244 rfl hi1 rfl (by simp) rfl (sX8_at _ hi1 pp0) (fun r h0 hq => ?_)
      obtain ⟨rfl, hh⟩ := hq
      replace hh := hh.symm
      subst hh
      refine zt_bipush (v := 120) kX11_doStatement_54 rfl ?_
      refine zt_icmp_ne kX11_doStatement_56 (fun c => ?_) (fun c => ?_)
      · replace H := H.1 c
        refine zt_aload_n kX11_doStatement_83 rfl ?_
        refine zt_iload_n kX11_doStatement_84 rfl ?_
        refine zt_iconst (v := 3) kX11_doStatement_85 rfl ?_
        refine zt_iadd kX11_doStatement_86 ?_
        obtain ⟨pp0, H⟩ := H
        refine zt_cS (as := [zr 3 i1, zi (x2 + 3)]) kX11_doStatement_87 sRX11_349 rfl (by simp) rfl (sX11_digitAt _ hi1 pp0) (fun r h0 hq => ?_)
        obtain ⟨rfl, hh⟩ := hq
        replace hh := hh.symm
        subst hh
        refine zt_istore (L' := [zr 0 0, zr 3 i1, zi x2, zi y1, zi (shAt h i1 (x2 + 3) - 48)]) kX11_doStatement_90 (by decide) rfl ?_
        refine zt_iload kX11_doStatement_92 rfl ?_
        refine zt_if_lt kX11_doStatement_94 (fun c => ?_) (fun c => ?_)
        · replace H := H.1 c
          refine zt_iconst (v := 0) kX11_doStatement_115 rfl ?_
          exact zt_zret kX11_doStatement_116 rfl (by decide) H
        · replace H := H.2 c
          refine zt_iload kX11_doStatement_97 rfl ?_
          refine zt_bipush (v := 8) kX11_doStatement_99 rfl ?_
          refine zt_icmp_ge kX11_doStatement_101 (fun c => ?_) (fun c => ?_)
          · replace H := H.1 c
            refine zt_iconst (v := 0) kX11_doStatement_115 rfl ?_
            exact zt_zret kX11_doStatement_116 rfl (by decide) H
          · replace H := H.2 c
            refine zt_aload_n kX11_doStatement_104 rfl ?_
            refine zt_get (v := zr 2 0) kX11_doStatement_105 fRX11_48 rfl (by decide) rfl ?_
            refine zt_iload_n kX11_doStatement_108 rfl ?_
            refine zt_cV (as := [zi y1]) kX11_doStatement_109 sRX11_90 rfl (by decide) rfl (by simp) rfl (sX4_holds _ (by decide) ) (fun r h0 hq => ?_)
            obtain ⟨rfl, hh⟩ := hq
            replace hh := hh.symm
            subst hh
            refine zt_ifb_eq kX11_doStatement_112 (fun c => ?_) (fun c => ?_)
            · replace H := H.1 c
              refine zt_aload_n kX11_doStatement_117 rfl ?_
              refine zt_get (v := zr 2 0) kX11_doStatement_118 fRX11_48 rfl (by decide) rfl ?_
              refine zt_iload_n kX11_doStatement_121 rfl ?_
              refine zt_iload kX11_doStatement_122 rfl ?_
              refine zt_aload_n kX11_doStatement_124 rfl ?_
              refine zt_iload_n kX11_doStatement_125 rfl ?_
              refine zt_iconst (v := 4) kX11_doStatement_126 rfl ?_
              refine zt_iadd kX11_doStatement_127 ?_
              obtain ⟨pp0, H⟩ := H
              refine zt_cS (as := [zr 3 i1, zi (x2 + 4)]) kX11_doStatement_128 sRX11_349 rfl (by simp) rfl (sX11_digitAt _ hi1 pp0) (fun r h0 hq => ?_)
              obtain ⟨rfl, hh⟩ := hq
              replace hh := hh.symm
              subst hh
              refine zt_aload_n kX11_doStatement_131 rfl ?_
              refine zt_get (v := zr 21 0) kX11_doStatement_132 fRX11_33 rfl (by decide) rfl ?_
              refine zt_iload kX11_doStatement_135 rfl ?_
              obtain ⟨hv2, H⟩ := H
              refine zt_aaldS kX11_doStatement_137 hv2 ?_
              refine zt_cV (as := [zi y1, zi (shAt h i1 (x2 + 3) - 48), zi (shAt h i1 (x2 + 4) - 48), zr 4 ((shAt h i1 (x2 + 3) - 48).toNatClampNeg)]) kX11_doStatement_138 sRX11_123 rfl (by decide) rfl (by simp) rfl H (fun r4 h3 H => ?_)
              obtain ⟨y5, rfl, H⟩ := H
              refine zt_pop kX11_doStatement_141 (by intro x q; cases q) ?_
              refine zt_iconst (v := 1) kX11_doStatement_142 rfl ?_
              exact zt_zret kX11_doStatement_143 rfl (by decide) H
            · replace H := H.2 c
              refine zt_iconst (v := 0) kX11_doStatement_115 rfl ?_
              exact zt_zret kX11_doStatement_116 rfl (by decide) H
      · replace H := H.2 c
        refine zt_aload_n kX11_doStatement_59 rfl ?_
        refine zt_get (v := zr 2 0) kX11_doStatement_60 fRX11_48 rfl (by decide) rfl ?_
        refine zt_iload_n kX11_doStatement_63 rfl ?_
        refine zt_cV (as := [zi y1]) kX11_doStatement_64 sRX11_90 rfl (by decide) rfl (by simp) rfl (sX4_holds _ (by decide) ) (fun r h0 hq => ?_)
        obtain ⟨rfl, hh⟩ := hq
        replace hh := hh.symm
        subst hh
        refine zt_ifb_ne kX11_doStatement_67 (fun c => ?_) (fun c => ?_)
        · replace H := H.1 c
          refine zt_aload_n kX11_doStatement_72 rfl ?_
          refine zt_get (v := zr 2 0) kX11_doStatement_73 fRX11_48 rfl (by decide) rfl ?_
          refine zt_iload_n kX11_doStatement_76 rfl ?_
          refine zt_cV (as := [zi y1]) kX11_doStatement_77 sRX11_130 rfl (by decide) rfl (by simp) rfl H (fun r7 h6 H => ?_)
          obtain ⟨y8, rfl, H⟩ := H
          refine zt_pop kX11_doStatement_80 (by intro x q; cases q) ?_
          refine zt_iconst (v := 1) kX11_doStatement_81 rfl ?_
          exact zt_zret kX11_doStatement_82 rfl (by decide) H
        · replace H := H.2 c
          refine zt_iconst (v := 0) kX11_doStatement_70 rfl ?_
          exact zt_zret kX11_doStatement_71 rfl (by decide) H
    · replace H := H.2 c
      refine zt_aload_n kX11_doStatement_38 rfl ?_
      refine zt_get (v := zr 2 0) kX11_doStatement_39 fRX11_48 rfl (by decide) rfl ?_
      refine zt_iload_n kX11_doStatement_42 rfl ?_
      refine zt_cV (as := [zi y1]) kX11_doStatement_43 sRX11_133 rfl (by decide) rfl (by simp) rfl H (fun r10 h9 H => ?_)
      obtain ⟨y11, rfl, H⟩ := H
      refine zt_pop kX11_doStatement_46 (by intro x q; cases q) ?_
      refine zt_iconst (v := 1) kX11_doStatement_47 rfl ?_
      exact zt_zret kX11_doStatement_48 rfl (by decide) H
  · replace H := H.2 c
    refine zt_iconst (v := 0) kX11_doStatement_26 rfl ?_
    exact zt_zret kX11_doStatement_27 rfl (by decide) H

theorem kX11_doStatements_0 : zD cX11_doStatements 0 1 (.aload_n 0) 1 := by decide +kernel
theorem kX11_doStatements_1 : zD cX11_doStatements 1 4 (.getfield 57) 3 := by decide +kernel
theorem kX11_doStatements_4 : zD cX11_doStatements 4 5 (.aload_n 0) 1 := by decide +kernel
theorem kX11_doStatements_5 : zD cX11_doStatements 5 8 (.getfield 48) 3 := by decide +kernel
theorem kX11_doStatements_8 : zD cX11_doStatements 8 11 (.invokevirtual 269) 3 := by decide +kernel
theorem kX11_doStatements_11 : zD cX11_doStatements 11 12 (.iconst 0) 1 := by decide +kernel
theorem kX11_doStatements_12 : zD cX11_doStatements 12 13 (.istore_n 2) 1 := by decide +kernel
theorem kX11_doStatements_13 : zD cX11_doStatements 13 14 (.iconst 0) 1 := by decide +kernel
theorem kX11_doStatements_14 : zD cX11_doStatements 14 15 (.istore_n 3) 1 := by decide +kernel
theorem kX11_doStatements_15 : zD cX11_doStatements 15 16 (.iconst 0) 1 := by decide +kernel
theorem kX11_doStatements_16 : zD cX11_doStatements 16 18 (.istore 4) 2 := by decide +kernel
theorem kX11_doStatements_18 : zD cX11_doStatements 18 20 (.iload 4) 2 := by decide +kernel
theorem kX11_doStatements_20 : zD cX11_doStatements 20 22 (.bipush 100) 2 := by decide +kernel
theorem kX11_doStatements_22 : zB cX11_doStatements 22 25 81 (.if_icmp .ge 59) 59 := by decide +kernel
theorem kX11_doStatements_25 : zD cX11_doStatements 25 26 (.iload_n 3) 1 := by decide +kernel
theorem kX11_doStatements_26 : zD cX11_doStatements 26 27 (.aload_n 1) 1 := by decide +kernel
theorem kX11_doStatements_27 : zD cX11_doStatements 27 30 (.getfield 241) 3 := by decide +kernel
theorem kX11_doStatements_30 : zB cX11_doStatements 30 33 81 (.if_icmp .ge 51) 51 := by decide +kernel
theorem kX11_doStatements_33 : zD cX11_doStatements 33 34 (.aload_n 0) 1 := by decide +kernel
theorem kX11_doStatements_34 : zD cX11_doStatements 34 35 (.aload_n 1) 1 := by decide +kernel
theorem kX11_doStatements_35 : zD cX11_doStatements 35 36 (.iload_n 3) 1 := by decide +kernel
theorem kX11_doStatements_36 : zD cX11_doStatements 36 39 (.invokevirtual 345) 3 := by decide +kernel
theorem kX11_doStatements_39 : zB cX11_doStatements 39 42 59 (.ifCond .ne 20) 20 := by decide +kernel
theorem kX11_doStatements_42 : zD cX11_doStatements 42 43 (.aload_n 0) 1 := by decide +kernel
theorem kX11_doStatements_43 : zD cX11_doStatements 43 46 (.getfield 48) 3 := by decide +kernel
theorem kX11_doStatements_46 : zD cX11_doStatements 46 47 (.aload_n 0) 1 := by decide +kernel
theorem kX11_doStatements_47 : zD cX11_doStatements 47 50 (.getfield 57) 3 := by decide +kernel
theorem kX11_doStatements_50 : zD cX11_doStatements 50 53 (.invokevirtual 269) 3 := by decide +kernel
theorem kX11_doStatements_53 : zD cX11_doStatements 53 56 (.sipush (-2000)) 3 := by decide +kernel
theorem kX11_doStatements_56 : zD cX11_doStatements 56 57 (.iload_n 3) 1 := by decide +kernel
theorem kX11_doStatements_57 : zD cX11_doStatements 57 58 (.isub) 1 := by decide +kernel
theorem kX11_doStatements_58 : zD cX11_doStatements 58 59 (.ireturn) 1 := by decide +kernel
theorem kX11_doStatements_59 : zD cX11_doStatements 59 62 (.iinc 2 1) 3 := by decide +kernel
theorem kX11_doStatements_62 : zD cX11_doStatements 62 63 (.iload_n 3) 1 := by decide +kernel
theorem kX11_doStatements_63 : zD cX11_doStatements 63 64 (.aload_n 1) 1 := by decide +kernel
theorem kX11_doStatements_64 : zD cX11_doStatements 64 65 (.iload_n 3) 1 := by decide +kernel
theorem kX11_doStatements_65 : zD cX11_doStatements 65 68 (.invokevirtual 244) 3 := by decide +kernel
theorem kX11_doStatements_68 : zD cX11_doStatements 68 71 (.invokestatic 342) 3 := by decide +kernel
theorem kX11_doStatements_71 : zD cX11_doStatements 71 72 (.iconst 2) 1 := by decide +kernel
theorem kX11_doStatements_72 : zD cX11_doStatements 72 73 (.iadd) 1 := by decide +kernel
theorem kX11_doStatements_73 : zD cX11_doStatements 73 74 (.iadd) 1 := by decide +kernel
theorem kX11_doStatements_74 : zD cX11_doStatements 74 75 (.istore_n 3) 1 := by decide +kernel
theorem kX11_doStatements_75 : zD cX11_doStatements 75 78 (.iinc 4 1) 3 := by decide +kernel
theorem kX11_doStatements_78 : zB cX11_doStatements 78 81 18 (.goto (-60)) (-60) := by decide +kernel
theorem kX11_doStatements_81 : zD cX11_doStatements 81 82 (.iload_n 2) 1 := by decide +kernel
theorem kX11_doStatements_82 : zD cX11_doStatements 82 83 (.ireturn) 1 := by decide +kernel
set_option maxRecDepth 10000 in
theorem wX11_doStatements_0 {G : ZG} {d : Nat} {h : ZH} {Q : Option ZV → ZH → Prop} {i1 : Nat} (hi1 : i1 < zcnt 3)
  (H : zC G (d + 6) mX4_becomeAs [zr 2 2, zr 2 0] h (fun r2 h1 => r2 = none ∧ zT G (d + 7) mX11_doStatements 18 [zr 0 0, zr 3 i1, zi 0, zi 0, zi 0] [] h1 Q)) :
  zT G (d + 7) mX11_doStatements 0 [zr 0 0, zr 3 i1, zu, zu, zu] [] h Q := by
  refine zt_aload_n kX11_doStatements_0 rfl ?_
  refine zt_get (v := zr 2 2) kX11_doStatements_1 fRX11_57 rfl (by decide) rfl ?_
  refine zt_aload_n kX11_doStatements_4 rfl ?_
  refine zt_get (v := zr 2 0) kX11_doStatements_5 fRX11_48 rfl (by decide) rfl ?_
  refine zt_cV (as := [zr 2 0]) kX11_doStatements_8 sRX11_269 rfl (by decide) rfl (by simp) rfl H (fun r2 h1 H => ?_)
  obtain ⟨rfl, H⟩ := H
  refine zt_iconst (v := 0) kX11_doStatements_11 rfl ?_
  refine zt_istore_n (L' := [zr 0 0, zr 3 i1, zi 0, zu, zu]) kX11_doStatements_12 (by decide) rfl ?_
  refine zt_iconst (v := 0) kX11_doStatements_13 rfl ?_
  refine zt_istore_n (L' := [zr 0 0, zr 3 i1, zi 0, zi 0, zu]) kX11_doStatements_14 (by decide) rfl ?_
  refine zt_iconst (v := 0) kX11_doStatements_15 rfl ?_
  refine zt_istore (L' := [zr 0 0, zr 3 i1, zi 0, zi 0, zi 0]) kX11_doStatements_16 (by decide) rfl ?_
  exact H

set_option maxRecDepth 10000 in
theorem wX11_doStatements_18 {G : ZG} {d : Nat} {h : ZH} {Q : Option ZV → ZH → Prop} {i1 : Nat} {x2 : Int32} {x3 : Int32} {x4 : Int32} (hi1 : i1 < zcnt 3)
  (H : (100 ≤ x4 → Q (some (zi x2)) h) ∧ (¬ 100 ≤ x4 → ((h.1 3 i1 4) ≤ x3 → Q (some (zi x2)) h) ∧ (¬ (h.1 3 i1 4) ≤ x3 → zC G (d + 6) mX11_doStatement [zr 0 0, zr 3 i1, zi x3] h (fun r2 h1 => ∃ y3 : Int32, r2 = some (zi y3) ∧ (¬ y3 = 0 → h1.1 3 i1 4 ≤ 100 ∧ (zT G (d + 7) mX11_doStatements 18 [zr 0 0, zr 3 i1, zi (x2 + 1), zi (x3 + ((dbI (shAt h1 i1 x3)) + 2)), zi (x4 + 1)] [] h1 Q)) ∧ (y3 = 0 → zC G (d + 6) mX4_becomeAs [zr 2 0, zr 2 2] h1 (fun r5 h4 => r5 = none ∧ Q (some (zi ((-2000) - x3))) h4)))))) :
  zT G (d + 7) mX11_doStatements 18 [zr 0 0, zr 3 i1, zi x2, zi x3, zi x4] [] h Q := by
  refine zt_iload kX11_doStatements_18 rfl ?_
  refine zt_bipush (v := 100) kX11_doStatements_20 rfl ?_
  refine zt_icmp_ge kX11_doStatements_22 (fun c => ?_) (fun c => ?_)
  · replace H := H.1 c
    refine zt_iload_n kX11_doStatements_81 rfl ?_
    exact zt_iret kX11_doStatements_82 rfl H
  · replace H := H.2 c
    refine zt_iload_n kX11_doStatements_25 rfl ?_
    refine zt_aload_n kX11_doStatements_26 rfl ?_
    refine zt_get (v := zi (h.1 3 i1 4)) kX11_doStatements_27 fRX11_241 rfl hi1 rfl ?_
    refine zt_icmp_ge kX11_doStatements_30 (fun c => ?_) (fun c => ?_)
    · replace H := H.1 c
      refine zt_iload_n kX11_doStatements_81 rfl ?_
      exact zt_iret kX11_doStatements_82 rfl H
    · replace H := H.2 c
      refine zt_aload_n kX11_doStatements_33 rfl ?_
      refine zt_aload_n kX11_doStatements_34 rfl ?_
      refine zt_iload_n kX11_doStatements_35 rfl ?_
      refine zt_cV (as := [zr 3 i1, zi x3]) kX11_doStatements_36 sRX11_345 rfl (by decide) rfl (by simp) rfl H (fun r2 h1 H => ?_)
      obtain ⟨y3, rfl, H⟩ := H
      refine zt_if_ne kX11_doStatements_39 (fun c => ?_) (fun c => ?_)
      · replace H := H.1 c
        refine zt_iinc (v := (x2 + 1)) (L' := [zr 0 0, zr 3 i1, zi (x2 + 1), zi x3, zi x4]) kX11_doStatements_59 rfl rfl (by decide) rfl ?_
        refine zt_iload_n kX11_doStatements_62 rfl ?_
        refine zt_aload_n kX11_doStatements_63 rfl ?_
        refine zt_iload_n kX11_doStatements_64 rfl ?_
        obtain ⟨pp0, H⟩ := H
        refine zt_cV (as := [zi x3]) kX11_doStatements_65 sRX11_244 rfl hi1 rfl (by simp) rfl (sX8_at _ hi1 pp0) (fun r h0 hq => ?_)
        obtain ⟨rfl, hh⟩ := hq
        replace hh := hh.symm
        subst hh
        refine zt_cS (as := [zi (shAt h1 i1 x3)]) kX11_doStatements_68 sRX11_342 rfl (by simp) rfl (sX11_digitsBehind _  ) (fun r h0 hq => ?_)
        obtain ⟨rfl, hh⟩ := hq
        replace hh := hh.symm
        subst hh
        refine zt_iconst (v := 2) kX11_doStatements_71 rfl ?_
        refine zt_iadd kX11_doStatements_72 ?_
        refine zt_iadd kX11_doStatements_73 ?_
        refine zt_istore_n (L' := [zr 0 0, zr 3 i1, zi (x2 + 1), zi (x3 + ((dbI (shAt h1 i1 x3)) + 2)), zi x4]) kX11_doStatements_74 (by decide) rfl ?_
        refine zt_iinc (v := (x4 + 1)) (L' := [zr 0 0, zr 3 i1, zi (x2 + 1), zi (x3 + ((dbI (shAt h1 i1 x3)) + 2)), zi (x4 + 1)]) kX11_doStatements_75 rfl rfl (by decide) rfl ?_
        refine zt_goto kX11_doStatements_78 ?_
        exact H
      · replace H := H.2 c
        refine zt_aload_n kX11_doStatements_42 rfl ?_
        refine zt_get (v := zr 2 0) kX11_doStatements_43 fRX11_48 rfl (by decide) rfl ?_
        refine zt_aload_n kX11_doStatements_46 rfl ?_
        refine zt_get (v := zr 2 2) kX11_doStatements_47 fRX11_57 rfl (by decide) rfl ?_
        refine zt_cV (as := [zr 2 2]) kX11_doStatements_50 sRX11_269 rfl (by decide) rfl (by simp) rfl H (fun r5 h4 H => ?_)
        obtain ⟨rfl, H⟩ := H
        refine zt_sipush (v := (-2000)) kX11_doStatements_53 rfl ?_
        refine zt_iload_n kX11_doStatements_56 rfl ?_
        refine zt_isub kX11_doStatements_57 ?_
        exact zt_iret kX11_doStatements_58 rfl H

theorem kX11_hall_0 : zD cX11_hall 0 1 (.aload_n 0) 1 := by decide +kernel
theorem kX11_hall_1 : zD cX11_hall 1 2 (.iload_n 1) 1 := by decide +kernel
theorem kX11_hall_2 : zD cX11_hall 2 5 (.invokevirtual 71) 3 := by decide +kernel
theorem kX11_hall_5 : zD cX11_hall 5 6 (.istore_n 2) 1 := by decide +kernel
theorem kX11_hall_6 : zD cX11_hall 6 7 (.iload_n 2) 1 := by decide +kernel
theorem kX11_hall_7 : zB cX11_hall 7 10 12 (.ifCond .eq 5) 5 := by decide +kernel
theorem kX11_hall_10 : zD cX11_hall 10 11 (.iload_n 2) 1 := by decide +kernel
theorem kX11_hall_11 : zD cX11_hall 11 12 (.ireturn) 1 := by decide +kernel
theorem kX11_hall_12 : zD cX11_hall 12 13 (.aload_n 0) 1 := by decide +kernel
theorem kX11_hall_13 : zD cX11_hall 13 16 (.getfield 62) 3 := by decide +kernel
theorem kX11_hall_16 : zD cX11_hall 16 17 (.iload_n 1) 1 := by decide +kernel
theorem kX11_hall_17 : zD cX11_hall 17 18 (.aaload) 1 := by decide +kernel
theorem kX11_hall_18 : zD cX11_hall 18 19 (.astore_n 3) 1 := by decide +kernel
theorem kX11_hall_19 : zD cX11_hall 19 20 (.aload_n 3) 1 := by decide +kernel
theorem kX11_hall_20 : zD cX11_hall 20 23 (.getfield 75) 3 := by decide +kernel
theorem kX11_hall_23 : zB cX11_hall 23 26 29 (.ifCond .eq 6) 6 := by decide +kernel
theorem kX11_hall_26 : zD cX11_hall 26 28 (.bipush (-12)) 2 := by decide +kernel
theorem kX11_hall_28 : zD cX11_hall 28 29 (.ireturn) 1 := by decide +kernel
theorem kX11_hall_29 : zD cX11_hall 29 30 (.aload_n 3) 1 := by decide +kernel
theorem kX11_hall_30 : zD cX11_hall 30 33 (.invokestatic 79) 3 := by decide +kernel
theorem kX11_hall_33 : zD cX11_hall 33 35 (.istore 4) 2 := by decide +kernel
theorem kX11_hall_35 : zD cX11_hall 35 37 (.iload 4) 2 := by decide +kernel
theorem kX11_hall_37 : zB cX11_hall 37 40 47 (.ifCond .lt 10) 10 := by decide +kernel
theorem kX11_hall_40 : zD cX11_hall 40 43 (.sipush (-1000)) 3 := by decide +kernel
theorem kX11_hall_43 : zD cX11_hall 43 45 (.iload 4) 2 := by decide +kernel
theorem kX11_hall_45 : zD cX11_hall 45 46 (.isub) 1 := by decide +kernel
theorem kX11_hall_46 : zD cX11_hall 46 47 (.ireturn) 1 := by decide +kernel
theorem kX11_hall_47 : zD cX11_hall 47 48 (.aload_n 0) 1 := by decide +kernel
theorem kX11_hall_48 : zD cX11_hall 48 49 (.aload_n 3) 1 := by decide +kernel
theorem kX11_hall_49 : zD cX11_hall 49 52 (.invokevirtual 83) 3 := by decide +kernel
theorem kX11_hall_52 : zD cX11_hall 52 53 (.ireturn) 1 := by decide +kernel
set_option maxRecDepth 10000 in
theorem wX11_hall_0 {G : ZG} {d : Nat} {h : ZH} {Q : Option ZV → ZH → Prop} {x1 : Int32} 
  (H : ((rowRefI h x1) = 0 → vp_in x1 8 ∧ ((h.1 3 (x1.toNatClampNeg) 3) = 0 → zC G (d + 7) mX11_firstBadByte [zr 3 (x1.toNatClampNeg)] h (fun r3 h2 => ∃ y4 : Int32, r3 = some (zi y4) ∧ (y4 < 0 → zC G (d + 7) mX11_doStatements [zr 0 0, zr 3 (x1.toNatClampNeg)] h2 (fun r6 h5 => ∃ y7 : Int32, r6 = some (zi y7) ∧ Q (some (zi y7)) h5)) ∧ (¬ y4 < 0 → Q (some (zi ((-1000) - y4))) h2))) ∧ (¬ (h.1 3 (x1.toNatClampNeg) 3) = 0 → Q (some (zi (-12))) h)) ∧ (¬ (rowRefI h x1) = 0 → Q (some (zi (rowRefI h x1))) h)) :
  zT G (d + 8) mX11_hall 0 [zr 0 0, zi x1, zu, zu, zu] [] h Q := by
  refine zt_aload_n kX11_hall_0 rfl ?_
  refine zt_iload_n kX11_hall_1 rfl ?_
  refine zt_cV (as := [zi x1]) kX11_hall_2 sRX11_71 rfl (by decide) rfl (by simp) rfl (sX11_rowRefused _  ) (fun r h0 hq => ?_)
  obtain ⟨rfl, hh⟩ := hq
  replace hh := hh.symm
  subst hh
  refine zt_istore_n (L' := [zr 0 0, zi x1, zi (rowRefI h x1), zu, zu]) kX11_hall_5 (by decide) rfl ?_
  refine zt_iload_n kX11_hall_6 rfl ?_
  refine zt_if_eq kX11_hall_7 (fun c => ?_) (fun c => ?_)
  · replace H := H.1 c
    refine zt_aload_n kX11_hall_12 rfl ?_
    refine zt_get (v := zr 22 0) kX11_hall_13 fRX11_62 rfl (by decide) rfl ?_
    refine zt_iload_n kX11_hall_16 rfl ?_
    obtain ⟨hv1, H⟩ := H
    refine zt_aaldH kX11_hall_17 hv1 ?_
    refine zt_astore_n (L' := [zr 0 0, zi x1, zi (rowRefI h x1), zr 3 (x1.toNatClampNeg), zu]) kX11_hall_18 (by decide) rfl ?_
    refine zt_aload_n kX11_hall_19 rfl ?_
    refine zt_get (v := zi (h.1 3 (x1.toNatClampNeg) 3)) kX11_hall_20 fRX11_75 rfl (zok3 hv1) rfl ?_
    refine zt_if_eq kX11_hall_23 (fun c => ?_) (fun c => ?_)
    · replace H := H.1 c
      refine zt_aload_n kX11_hall_29 rfl ?_
      refine zt_cS (as := [zr 3 (x1.toNatClampNeg)]) kX11_hall_30 sRX11_79 rfl (by simp) rfl H (fun r3 h2 H => ?_)
      obtain ⟨y4, rfl, H⟩ := H
      refine zt_istore (L' := [zr 0 0, zi x1, zi (rowRefI h x1), zr 3 (x1.toNatClampNeg), zi y4]) kX11_hall_33 (by decide) rfl ?_
      refine zt_iload kX11_hall_35 rfl ?_
      refine zt_if_lt kX11_hall_37 (fun c => ?_) (fun c => ?_)
      · replace H := H.1 c
        refine zt_aload_n kX11_hall_47 rfl ?_
        refine zt_aload_n kX11_hall_48 rfl ?_
        refine zt_cV (as := [zr 3 (x1.toNatClampNeg)]) kX11_hall_49 sRX11_83 rfl (by decide) rfl (by simp) rfl H (fun r6 h5 H => ?_)
        obtain ⟨y7, rfl, H⟩ := H
        exact zt_iret kX11_hall_52 rfl H
      · replace H := H.2 c
        refine zt_sipush (v := (-1000)) kX11_hall_40 rfl ?_
        refine zt_iload kX11_hall_43 rfl ?_
        refine zt_isub kX11_hall_45 ?_
        exact zt_iret kX11_hall_46 rfl H
    · replace H := H.2 c
      refine zt_bipush (v := (-12)) kX11_hall_26 rfl ?_
      exact zt_iret kX11_hall_28 rfl H
  · replace H := H.2 c
    refine zt_iload_n kX11_hall_10 rfl ?_
    exact zt_iret kX11_hall_11 rfl H

