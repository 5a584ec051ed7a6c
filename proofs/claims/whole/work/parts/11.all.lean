/-! ===== the bytecode of these methods, walked (by program): X12_readsStatement X12_isDone ===== -/
theorem kX12_readsStatement_0 : zD cX12_readsStatement 0 1 (.aload_n 0) 1 := by decide +kernel
theorem kX12_readsStatement_1 : zD cX12_readsStatement 1 4 (.invokevirtual 123) 3 := by decide +kernel
theorem kX12_readsStatement_4 : zD cX12_readsStatement 4 5 (.istore_n 1) 1 := by decide +kernel
theorem kX12_readsStatement_5 : zD cX12_readsStatement 5 6 (.aload_n 0) 1 := by decide +kernel
theorem kX12_readsStatement_6 : zD cX12_readsStatement 6 7 (.dup) 1 := by decide +kernel
theorem kX12_readsStatement_7 : zD cX12_readsStatement 7 10 (.getfield 114) 3 := by decide +kernel
theorem kX12_readsStatement_10 : zD cX12_readsStatement 10 11 (.iconst 1) 1 := by decide +kernel
theorem kX12_readsStatement_11 : zD cX12_readsStatement 11 12 (.iadd) 1 := by decide +kernel
theorem kX12_readsStatement_12 : zD cX12_readsStatement 12 15 (.putfield 114) 3 := by decide +kernel
theorem kX12_readsStatement_15 : zD cX12_readsStatement 15 16 (.iload_n 1) 1 := by decide +kernel
theorem kX12_readsStatement_16 : decode cX12_readsStatement 16 = .ok (.lookupswitch 82 #[(112, 72), (115, 36), (120, 72)], 36) := by decide +kernel
theorem kX12_readsStatement_52 : zD cX12_readsStatement 52 53 (.aload_n 0) 1 := by decide +kernel
theorem kX12_readsStatement_53 : zD cX12_readsStatement 53 54 (.iconst 0) 1 := by decide +kernel
theorem kX12_readsStatement_54 : zD cX12_readsStatement 54 55 (.iconst 2) 1 := by decide +kernel
theorem kX12_readsStatement_55 : zD cX12_readsStatement 55 58 (.invokevirtual 127) 3 := by decide +kernel
theorem kX12_readsStatement_58 : zB cX12_readsStatement 58 61 83 (.ifCond .eq 25) 25 := by decide +kernel
theorem kX12_readsStatement_61 : zD cX12_readsStatement 61 62 (.aload_n 0) 1 := by decide +kernel
theorem kX12_readsStatement_62 : zD cX12_readsStatement 62 63 (.iconst 1) 1 := by decide +kernel
theorem kX12_readsStatement_63 : zD cX12_readsStatement 63 64 (.iconst 1) 1 := by decide +kernel
theorem kX12_readsStatement_64 : zD cX12_readsStatement 64 67 (.invokevirtual 127) 3 := by decide +kernel
theorem kX12_readsStatement_67 : zB cX12_readsStatement 67 70 83 (.ifCond .eq 16) 16 := by decide +kernel
theorem kX12_readsStatement_70 : zD cX12_readsStatement 70 71 (.aload_n 0) 1 := by decide +kernel
theorem kX12_readsStatement_71 : zD cX12_readsStatement 71 72 (.iconst 2) 1 := by decide +kernel
theorem kX12_readsStatement_72 : zD cX12_readsStatement 72 73 (.iconst 1) 1 := by decide +kernel
theorem kX12_readsStatement_73 : zD cX12_readsStatement 73 76 (.invokevirtual 127) 3 := by decide +kernel
theorem kX12_readsStatement_76 : zB cX12_readsStatement 76 79 83 (.ifCond .eq 7) 7 := by decide +kernel
theorem kX12_readsStatement_79 : zD cX12_readsStatement 79 80 (.iconst 1) 1 := by decide +kernel
theorem kX12_readsStatement_80 : zB cX12_readsStatement 80 83 84 (.goto 4) 4 := by decide +kernel
theorem kX12_readsStatement_83 : zD cX12_readsStatement 83 84 (.iconst 0) 1 := by decide +kernel
theorem kX12_readsStatement_84 : zD cX12_readsStatement 84 85 (.istore_n 2) 1 := by decide +kernel
theorem kX12_readsStatement_85 : zB cX12_readsStatement 85 88 110 (.goto 25) 25 := by decide +kernel
theorem kX12_readsStatement_88 : zD cX12_readsStatement 88 89 (.aload_n 0) 1 := by decide +kernel
theorem kX12_readsStatement_89 : zD cX12_readsStatement 89 90 (.iconst 0) 1 := by decide +kernel
theorem kX12_readsStatement_90 : zD cX12_readsStatement 90 91 (.iconst 2) 1 := by decide +kernel
theorem kX12_readsStatement_91 : zD cX12_readsStatement 91 94 (.invokevirtual 127) 3 := by decide +kernel
theorem kX12_readsStatement_94 : zD cX12_readsStatement 94 95 (.istore_n 2) 1 := by decide +kernel
theorem kX12_readsStatement_95 : zB cX12_readsStatement 95 98 110 (.goto 15) 15 := by decide +kernel
theorem kX12_readsStatement_98 : zD cX12_readsStatement 98 99 (.aload_n 0) 1 := by decide +kernel
theorem kX12_readsStatement_99 : zD cX12_readsStatement 99 100 (.dup) 1 := by decide +kernel
theorem kX12_readsStatement_100 : zD cX12_readsStatement 100 103 (.getfield 114) 3 := by decide +kernel
theorem kX12_readsStatement_103 : zD cX12_readsStatement 103 104 (.iconst 1) 1 := by decide +kernel
theorem kX12_readsStatement_104 : zD cX12_readsStatement 104 105 (.isub) 1 := by decide +kernel
theorem kX12_readsStatement_105 : zD cX12_readsStatement 105 108 (.putfield 114) 3 := by decide +kernel
theorem kX12_readsStatement_108 : zD cX12_readsStatement 108 109 (.iconst 0) 1 := by decide +kernel
theorem kX12_readsStatement_109 : zD cX12_readsStatement 109 110 (.ireturn) 1 := by decide +kernel
theorem kX12_readsStatement_110 : zD cX12_readsStatement 110 111 (.iload_n 2) 1 := by decide +kernel
theorem kX12_readsStatement_111 : zB cX12_readsStatement 111 114 123 (.ifCond .eq 12) 12 := by decide +kernel
theorem kX12_readsStatement_114 : zD cX12_readsStatement 114 115 (.aload_n 0) 1 := by decide +kernel
theorem kX12_readsStatement_115 : zD cX12_readsStatement 115 118 (.invokevirtual 123) 3 := by decide +kernel
theorem kX12_readsStatement_118 : zD cX12_readsStatement 118 120 (.bipush 59) 2 := by decide +kernel
theorem kX12_readsStatement_120 : zB cX12_readsStatement 120 123 125 (.if_icmp .eq 5) 5 := by decide +kernel
theorem kX12_readsStatement_123 : zD cX12_readsStatement 123 124 (.iconst 0) 1 := by decide +kernel
theorem kX12_readsStatement_124 : zD cX12_readsStatement 124 125 (.ireturn) 1 := by decide +kernel
theorem kX12_readsStatement_125 : zD cX12_readsStatement 125 126 (.aload_n 0) 1 := by decide +kernel
theorem kX12_readsStatement_126 : zD cX12_readsStatement 126 127 (.dup) 1 := by decide +kernel
theorem kX12_readsStatement_127 : zD cX12_readsStatement 127 130 (.getfield 114) 3 := by decide +kernel
theorem kX12_readsStatement_130 : zD cX12_readsStatement 130 131 (.iconst 1) 1 := by decide +kernel
theorem kX12_readsStatement_131 : zD cX12_readsStatement 131 132 (.iadd) 1 := by decide +kernel
theorem kX12_readsStatement_132 : zD cX12_readsStatement 132 135 (.putfield 114) 3 := by decide +kernel
theorem kX12_readsStatement_135 : zD cX12_readsStatement 135 136 (.iconst 1) 1 := by decide +kernel
theorem kX12_readsStatement_136 : zD cX12_readsStatement 136 137 (.ireturn) 1 := by decide +kernel
set_option maxRecDepth 10000 in
theorem wX12_readsStatement_0 {G : ZG} {d : Nat} {h : ZH} {Q : Option ZV → ZH → Prop}  
  (H : zC G (d + 2) mX12_here [zr 5 0] h (fun r2 h1 => ∃ y3 : Int32, r2 = some (zi y3) ∧ ∀ h4 : ZH, h4 = zs1 h1 5 0 6 ((h1.1 5 0 6) + 1) → (y3 = 112 → zC G (d + 2) mX12_readsNumber [zr 5 0, zi 0, zi 2] h4 (fun r6 h5 => ∃ y7 : Int32, r6 = some (zi y7) ∧ (y7 = 0 → Q (some (zi 0)) h5) ∧ (¬ y7 = 0 → zC G (d + 2) mX12_here [zr 5 0] h5 (fun r9 h8 => ∃ y10 : Int32, r9 = some (zi y10) ∧ (y10 = 59 → ∀ h11 : ZH, h11 = zs1 h8 5 0 6 ((h8.1 5 0 6) + 1) → Q (some (zi 1)) h11) ∧ (¬ y10 = 59 → Q (some (zi 0)) h8))))) ∧ (¬ y3 = 112 → (y3 = 115 → zC G (d + 2) mX12_readsNumber [zr 5 0, zi 0, zi 2] h4 (fun r13 h12 => ∃ y14 : Int32, r13 = some (zi y14) ∧ (y14 = 0 → Q (some (zi 0)) h12) ∧ (¬ y14 = 0 → zC G (d + 2) mX12_readsNumber [zr 5 0, zi 1, zi 1] h12 (fun r16 h15 => ∃ y17 : Int32, r16 = some (zi y17) ∧ (y17 = 0 → Q (some (zi 0)) h15) ∧ (¬ y17 = 0 → zC G (d + 2) mX12_readsNumber [zr 5 0, zi 2, zi 1] h15 (fun r19 h18 => ∃ y20 : Int32, r19 = some (zi y20) ∧ (y20 = 0 → Q (some (zi 0)) h18) ∧ (¬ y20 = 0 → zC G (d + 2) mX12_here [zr 5 0] h18 (fun r22 h21 => ∃ y23 : Int32, r22 = some (zi y23) ∧ (y23 = 59 → ∀ h24 : ZH, h24 = zs1 h21 5 0 6 ((h21.1 5 0 6) + 1) → Q (some (zi 1)) h24) ∧ (¬ y23 = 59 → Q (some (zi 0)) h21))))))))) ∧ (¬ y3 = 115 → (y3 = 120 → zC G (d + 2) mX12_readsNumber [zr 5 0, zi 0, zi 2] h4 (fun r26 h25 => ∃ y27 : Int32, r26 = some (zi y27) ∧ (y27 = 0 → Q (some (zi 0)) h25) ∧ (¬ y27 = 0 → zC G (d + 2) mX12_here [zr 5 0] h25 (fun r29 h28 => ∃ y30 : Int32, r29 = some (zi y30) ∧ (y30 = 59 → ∀ h31 : ZH, h31 = zs1 h28 5 0 6 ((h28.1 5 0 6) + 1) → Q (some (zi 1)) h31) ∧ (¬ y30 = 59 → Q (some (zi 0)) h28))))) ∧ (¬ y3 = 120 → ∀ h32 : ZH, h32 = zs1 h4 5 0 6 ((h4.1 5 0 6) - 1) → Q (some (zi 0)) h32))))) :
  zT G (d + 3) mX12_readsStatement 0 [zr 5 0, zu, zu] [] h Q := by
  refine zt_aload_n kX12_readsStatement_0 rfl ?_
  refine zt_cV (as := []) kX12_readsStatement_1 sRX12_123 rfl (by decide) rfl (by simp) rfl H (fun r2 h1 H => ?_)
  obtain ⟨y3, rfl, H⟩ := H
  refine zt_istore_n (L' := [zr 5 0, zi y3, zu]) kX12_readsStatement_4 (by decide) rfl ?_
  refine zt_aload_n kX12_readsStatement_5 rfl ?_
  refine zt_dup kX12_readsStatement_6 (by intro x q; cases q) ?_
  refine zt_get (v := zi (h1.1 5 0 6)) kX12_readsStatement_7 fRX12_114 rfl (by decide) rfl ?_
  refine zt_iconst (v := 1) kX12_readsStatement_10 rfl ?_
  refine zt_iadd kX12_readsStatement_11 ?_
  refine zt_put kX12_readsStatement_12 fRX12_114 pRX12_6 rfl (by decide) rfl ?_
  refine zt_heap (fun h4 eh4 => ?_)
  replace H := H h4 eh4
  refine zt_iload_n kX12_readsStatement_15 rfl ?_
  rcases Classical.em (y3 = 112) with c0 | c0
  · replace H := H.1 c0
    refine zt_lookup (off := 72) (tgt := 88) kX12_readsStatement_16 (by decide) (by first | (rw [c0]; done) | (rw [c0]; rfl)) (by decide) ?_
    refine zt_aload_n kX12_readsStatement_88 rfl ?_
    refine zt_iconst (v := 0) kX12_readsStatement_89 rfl ?_
    refine zt_iconst (v := 2) kX12_readsStatement_90 rfl ?_
    refine zt_cV (as := [zi 0, zi 2]) kX12_readsStatement_91 sRX12_127 rfl (by decide) rfl (by simp) rfl H (fun r6 h5 H => ?_)
    obtain ⟨y7, rfl, H⟩ := H
    refine zt_istore_n (L' := [zr 5 0, zi y3, zi y7]) kX12_readsStatement_94 (by decide) rfl ?_
    refine zt_goto kX12_readsStatement_95 ?_
    refine zt_iload_n kX12_readsStatement_110 rfl ?_
    refine zt_if_eq kX12_readsStatement_111 (fun c => ?_) (fun c => ?_)
    · replace H := H.1 c
      refine zt_iconst (v := 0) kX12_readsStatement_123 rfl ?_
      exact zt_zret kX12_readsStatement_124 rfl (by decide) H
    · replace H := H.2 c
      refine zt_aload_n kX12_readsStatement_114 rfl ?_
      refine zt_cV (as := []) kX12_readsStatement_115 sRX12_123 rfl (by decide) rfl (by simp) rfl H (fun r9 h8 H => ?_)
      obtain ⟨y10, rfl, H⟩ := H
      refine zt_bipush (v := 59) kX12_readsStatement_118 rfl ?_
      refine zt_icmp_eq kX12_readsStatement_120 (fun c => ?_) (fun c => ?_)
      · replace H := H.1 c
        refine zt_aload_n kX12_readsStatement_125 rfl ?_
        refine zt_dup kX12_readsStatement_126 (by intro x q; cases q) ?_
        refine zt_get (v := zi (h8.1 5 0 6)) kX12_readsStatement_127 fRX12_114 rfl (by decide) rfl ?_
        refine zt_iconst (v := 1) kX12_readsStatement_130 rfl ?_
        refine zt_iadd kX12_readsStatement_131 ?_
        refine zt_put kX12_readsStatement_132 fRX12_114 pRX12_6 rfl (by decide) rfl ?_
        refine zt_heap (fun h11 eh11 => ?_)
        replace H := H h11 eh11
        refine zt_iconst (v := 1) kX12_readsStatement_135 rfl ?_
        exact zt_zret kX12_readsStatement_136 rfl (by decide) H
      · replace H := H.2 c
        refine zt_iconst (v := 0) kX12_readsStatement_123 rfl ?_
        exact zt_zret kX12_readsStatement_124 rfl (by decide) H
  replace H := H.2 c0
  rcases Classical.em (y3 = 115) with c1 | c1
  · replace H := H.1 c1
    refine zt_lookup (off := 36) (tgt := 52) kX12_readsStatement_16 (by decide) (by first | (rw [c1]; done) | (rw [c1]; rfl)) (by decide) ?_
    refine zt_aload_n kX12_readsStatement_52 rfl ?_
    refine zt_iconst (v := 0) kX12_readsStatement_53 rfl ?_
    refine zt_iconst (v := 2) kX12_readsStatement_54 rfl ?_
    refine zt_cV (as := [zi 0, zi 2]) kX12_readsStatement_55 sRX12_127 rfl (by decide) rfl (by simp) rfl H (fun r13 h12 H => ?_)
    obtain ⟨y14, rfl, H⟩ := H
    refine zt_if_eq kX12_readsStatement_58 (fun c => ?_) (fun c => ?_)
    · replace H := H.1 c
      refine zt_iconst (v := 0) kX12_readsStatement_83 rfl ?_
      refine zt_istore_n (L' := [zr 5 0, zi y3, zi 0]) kX12_readsStatement_84 (by decide) rfl ?_
      refine zt_goto kX12_readsStatement_85 ?_
      refine zt_iload_n kX12_readsStatement_110 rfl ?_
      refine zt_if_eq kX12_readsStatement_111 (fun _ => ?_) (fun c => absurd c (by decide))
      refine zt_iconst (v := 0) kX12_readsStatement_123 rfl ?_
      exact zt_zret kX12_readsStatement_124 rfl (by decide) H
    · replace H := H.2 c
      refine zt_aload_n kX12_readsStatement_61 rfl ?_
      refine zt_iconst (v := 1) kX12_readsStatement_62 rfl ?_
      refine zt_iconst (v := 1) kX12_readsStatement_63 rfl ?_
      refine zt_cV (as := [zi 1, zi 1]) kX12_readsStatement_64 sRX12_127 rfl (by decide) rfl (by simp) rfl H (fun r16 h15 H => ?_)
      obtain ⟨y17, rfl, H⟩ := H
      refine zt_if_eq kX12_readsStatement_67 (fun c => ?_) (fun c => ?_)
      · replace H := H.1 c
        refine zt_iconst (v := 0) kX12_readsStatement_83 rfl ?_
        refine zt_istore_n (L' := [zr 5 0, zi y3, zi 0]) kX12_readsStatement_84 (by decide) rfl ?_
        refine zt_goto kX12_readsStatement_85 ?_
        refine zt_iload_n kX12_readsStatement_110 rfl ?_
        refine zt_if_eq kX12_readsStatement_111 (fun _ => ?_) (fun c => absurd c (by decide))
        refine zt_iconst (v := 0) kX12_readsStatement_123 rfl ?_
        exact zt_zret kX12_readsStatement_124 rfl (by decide) H
      · replace H := H.2 c
        refine zt_aload_n kX12_readsStatement_70 rfl ?_
        refine zt_iconst (v := 2) kX12_readsStatement_71 rfl ?_
        refine zt_iconst (v := 1) kX12_readsStatement_72 rfl ?_
        refine zt_cV (as := [zi 2, zi 1]) kX12_readsStatement_73 sRX12_127 rfl (by decide) rfl (by simp) rfl H (fun r19 h18 H => ?_)
        obtain ⟨y20, rfl, H⟩ := H
        refine zt_if_eq kX12_readsStatement_76 (fun c => ?_) (fun c => ?_)
        · replace H := H.1 c
          refine zt_iconst (v := 0) kX12_readsStatement_83 rfl ?_
          refine zt_istore_n (L' := [zr 5 0, zi y3, zi 0]) kX12_readsStatement_84 (by decide) rfl ?_
          refine zt_goto kX12_readsStatement_85 ?_
          refine zt_iload_n kX12_readsStatement_110 rfl ?_
          refine zt_if_eq kX12_readsStatement_111 (fun _ => ?_) (fun c => absurd c (by decide))
          refine zt_iconst (v := 0) kX12_readsStatement_123 rfl ?_
          exact zt_zret kX12_readsStatement_124 rfl (by decide) H
        · replace H := H.2 c
          refine zt_iconst (v := 1) kX12_readsStatement_79 rfl ?_
          refine zt_goto kX12_readsStatement_80 ?_
          refine zt_istore_n (L' := [zr 5 0, zi y3, zi 1]) kX12_readsStatement_84 (by decide) rfl ?_
          refine zt_goto kX12_readsStatement_85 ?_
          refine zt_iload_n kX12_readsStatement_110 rfl ?_
          refine zt_if_eq kX12_readsStatement_111 (fun c => absurd c (by decide)) (fun _ => ?_)
          refine zt_aload_n kX12_readsStatement_114 rfl ?_
          refine zt_cV (as := []) kX12_readsStatement_115 sRX12_123 rfl (by decide) rfl (by simp) rfl H (fun r22 h21 H => ?_)
          obtain ⟨y23, rfl, H⟩ := H
          refine zt_bipush (v := 59) kX12_readsStatement_118 rfl ?_
          refine zt_icmp_eq kX12_readsStatement_120 (fun c => ?_) (fun c => ?_)
          · replace H := H.1 c
            refine zt_aload_n kX12_readsStatement_125 rfl ?_
            refine zt_dup kX12_readsStatement_126 (by intro x q; cases q) ?_
            refine zt_get (v := zi (h21.1 5 0 6)) kX12_readsStatement_127 fRX12_114 rfl (by decide) rfl ?_
            refine zt_iconst (v := 1) kX12_readsStatement_130 rfl ?_
            refine zt_iadd kX12_readsStatement_131 ?_
            refine zt_put kX12_readsStatement_132 fRX12_114 pRX12_6 rfl (by decide) rfl ?_
            refine zt_heap (fun h24 eh24 => ?_)
            replace H := H h24 eh24
            refine zt_iconst (v := 1) kX12_readsStatement_135 rfl ?_
            exact zt_zret kX12_readsStatement_136 rfl (by decide) H
          · replace H := H.2 c
            refine zt_iconst (v := 0) kX12_readsStatement_123 rfl ?_
            exact zt_zret kX12_readsStatement_124 rfl (by decide) H
  replace H := H.2 c1
  rcases Classical.em (y3 = 120) with c2 | c2
  · replace H := H.1 c2
    refine zt_lookup (off := 72) (tgt := 88) kX12_readsStatement_16 (by decide) (by first | (rw [c2]; done) | (rw [c2]; rfl)) (by decide) ?_
    refine zt_aload_n kX12_readsStatement_88 rfl ?_
    refine zt_iconst (v := 0) kX12_readsStatement_89 rfl ?_
    refine zt_iconst (v := 2) kX12_readsStatement_90 rfl ?_
    refine zt_cV (as := [zi 0, zi 2]) kX12_readsStatement_91 sRX12_127 rfl (by decide) rfl (by simp) rfl H (fun r26 h25 H => ?_)
    obtain ⟨y27, rfl, H⟩ := H
    refine zt_istore_n (L' := [zr 5 0, zi y3, zi y27]) kX12_readsStatement_94 (by decide) rfl ?_
    refine zt_goto kX12_readsStatement_95 ?_
    refine zt_iload_n kX12_readsStatement_110 rfl ?_
    refine zt_if_eq kX12_readsStatement_111 (fun c => ?_) (fun c => ?_)
    · replace H := H.1 c
      refine zt_iconst (v := 0) kX12_readsStatement_123 rfl ?_
      exact zt_zret kX12_readsStatement_124 rfl (by decide) H
    · replace H := H.2 c
      refine zt_aload_n kX12_readsStatement_114 rfl ?_
      refine zt_cV (as := []) kX12_readsStatement_115 sRX12_123 rfl (by decide) rfl (by simp) rfl H (fun r29 h28 H => ?_)
      obtain ⟨y30, rfl, H⟩ := H
      refine zt_bipush (v := 59) kX12_readsStatement_118 rfl ?_
      refine zt_icmp_eq kX12_readsStatement_120 (fun c => ?_) (fun c => ?_)
      · replace H := H.1 c
        refine zt_aload_n kX12_readsStatement_125 rfl ?_
        refine zt_dup kX12_readsStatement_126 (by intro x q; cases q) ?_
        refine zt_get (v := zi (h28.1 5 0 6)) kX12_readsStatement_127 fRX12_114 rfl (by decide) rfl ?_
        refine zt_iconst (v := 1) kX12_readsStatement_130 rfl ?_
        refine zt_iadd kX12_readsStatement_131 ?_
        refine zt_put kX12_readsStatement_132 fRX12_114 pRX12_6 rfl (by decide) rfl ?_
        refine zt_heap (fun h31 eh31 => ?_)
        replace H := H h31 eh31
        refine zt_iconst (v := 1) kX12_readsStatement_135 rfl ?_
        exact zt_zret kX12_readsStatement_136 rfl (by decide) H
      · replace H := H.2 c
        refine zt_iconst (v := 0) kX12_readsStatement_123 rfl ?_
        exact zt_zret kX12_readsStatement_124 rfl (by decide) H
  replace H := H.2 c2
  refine zt_lookup (off := 82) (tgt := 98) kX12_readsStatement_16 (by decide) (by show Op.lookupswitch.offset [(112, 72), (115, 36), (120, 72)] 82 _ = _; rw [lv_osw (a := 112) c0 rfl, lv_osw (a := 115) c1 rfl, lv_osw (a := 120) c2 rfl]; rfl) (by decide) ?_
  refine zt_aload_n kX12_readsStatement_98 rfl ?_
  refine zt_dup kX12_readsStatement_99 (by intro x q; cases q) ?_
  refine zt_get (v := zi (h4.1 5 0 6)) kX12_readsStatement_100 fRX12_114 rfl (by decide) rfl ?_
  refine zt_iconst (v := 1) kX12_readsStatement_103 rfl ?_
  refine zt_isub kX12_readsStatement_104 ?_
  refine zt_put kX12_readsStatement_105 fRX12_114 pRX12_6 rfl (by decide) rfl ?_
  refine zt_heap (fun h32 eh32 => ?_)
  replace H := H h32 eh32
  refine zt_iconst (v := 0) kX12_readsStatement_108 rfl ?_
  exact zt_zret kX12_readsStatement_109 rfl (by decide) H

theorem kX12_isDone_0 : zD cX12_isDone 0 1 (.aload_n 0) 1 := by decide +kernel
theorem kX12_isDone_1 : zD cX12_isDone 1 4 (.getfield 22) 3 := by decide +kernel
theorem kX12_isDone_4 : zD cX12_isDone 4 5 (.iconst 0) 1 := by decide +kernel
theorem kX12_isDone_5 : zD cX12_isDone 5 6 (.iaload) 1 := by decide +kernel
theorem kX12_isDone_6 : zD cX12_isDone 6 7 (.istore_n 2) 1 := by decide +kernel
theorem kX12_isDone_7 : zD cX12_isDone 7 8 (.iload_n 2) 1 := by decide +kernel
theorem kX12_isDone_8 : zD cX12_isDone 8 11 (.invokestatic 130) 3 := by decide +kernel
theorem kX12_isDone_11 : zB cX12_isDone 11 14 16 (.ifCond .ne 5) 5 := by decide +kernel
theorem kX12_isDone_14 : zD cX12_isDone 14 15 (.iconst 0) 1 := by decide +kernel
theorem kX12_isDone_15 : zD cX12_isDone 15 16 (.ireturn) 1 := by decide +kernel
theorem kX12_isDone_16 : zD cX12_isDone 16 17 (.iload_n 1) 1 := by decide +kernel
theorem kX12_isDone_17 : decode cX12_isDone 17 = .ok (.lookupswitch 98 #[(115, 27), (120, 67)], 27) := by decide +kernel
theorem kX12_isDone_44 : zD cX12_isDone 44 45 (.aload_n 0) 1 := by decide +kernel
theorem kX12_isDone_45 : zD cX12_isDone 45 46 (.iload_n 2) 1 := by decide +kernel
theorem kX12_isDone_46 : zD cX12_isDone 46 49 (.invokevirtual 133) 3 := by decide +kernel
theorem kX12_isDone_49 : zB cX12_isDone 49 52 63 (.ifCond .ne 14) 14 := by decide +kernel
theorem kX12_isDone_52 : zD cX12_isDone 52 53 (.aload_n 0) 1 := by decide +kernel
theorem kX12_isDone_53 : zD cX12_isDone 53 56 (.getfield 22) 3 := by decide +kernel
theorem kX12_isDone_56 : zD cX12_isDone 56 57 (.iconst 1) 1 := by decide +kernel
theorem kX12_isDone_57 : zD cX12_isDone 57 58 (.iaload) 1 := by decide +kernel
theorem kX12_isDone_58 : zD cX12_isDone 58 60 (.bipush 8) 2 := by decide +kernel
theorem kX12_isDone_60 : zB cX12_isDone 60 63 65 (.if_icmp .lt 5) 5 := by decide +kernel
theorem kX12_isDone_63 : zD cX12_isDone 63 64 (.iconst 0) 1 := by decide +kernel
theorem kX12_isDone_64 : zD cX12_isDone 64 65 (.ireturn) 1 := by decide +kernel
theorem kX12_isDone_65 : zD cX12_isDone 65 66 (.aload_n 0) 1 := by decide +kernel
theorem kX12_isDone_66 : zD cX12_isDone 66 67 (.iload_n 2) 1 := by decide +kernel
theorem kX12_isDone_67 : zD cX12_isDone 67 68 (.aload_n 0) 1 := by decide +kernel
theorem kX12_isDone_68 : zD cX12_isDone 68 71 (.getfield 22) 3 := by decide +kernel
theorem kX12_isDone_71 : zD cX12_isDone 71 72 (.iconst 1) 1 := by decide +kernel
theorem kX12_isDone_72 : zD cX12_isDone 72 73 (.iaload) 1 := by decide +kernel
theorem kX12_isDone_73 : zD cX12_isDone 73 74 (.aload_n 0) 1 := by decide +kernel
theorem kX12_isDone_74 : zD cX12_isDone 74 77 (.getfield 22) 3 := by decide +kernel
theorem kX12_isDone_77 : zD cX12_isDone 77 78 (.iconst 2) 1 := by decide +kernel
theorem kX12_isDone_78 : zD cX12_isDone 78 79 (.iaload) 1 := by decide +kernel
theorem kX12_isDone_79 : zD cX12_isDone 79 82 (.invokevirtual 136) 3 := by decide +kernel
theorem kX12_isDone_82 : zD cX12_isDone 82 83 (.iconst 1) 1 := by decide +kernel
theorem kX12_isDone_83 : zD cX12_isDone 83 84 (.ireturn) 1 := by decide +kernel
theorem kX12_isDone_84 : zD cX12_isDone 84 85 (.aload_n 0) 1 := by decide +kernel
theorem kX12_isDone_85 : zD cX12_isDone 85 86 (.iload_n 2) 1 := by decide +kernel
theorem kX12_isDone_86 : zD cX12_isDone 86 89 (.invokevirtual 133) 3 := by decide +kernel
theorem kX12_isDone_89 : zB cX12_isDone 89 92 94 (.ifCond .ne 5) 5 := by decide +kernel
theorem kX12_isDone_92 : zD cX12_isDone 92 93 (.iconst 0) 1 := by decide +kernel
theorem kX12_isDone_93 : zD cX12_isDone 93 94 (.ireturn) 1 := by decide +kernel
theorem kX12_isDone_94 : zD cX12_isDone 94 95 (.aload_n 0) 1 := by decide +kernel
theorem kX12_isDone_95 : zD cX12_isDone 95 98 (.getfield 9) 3 := by decide +kernel
theorem kX12_isDone_98 : zD cX12_isDone 98 99 (.iconst 0) 1 := by decide +kernel
theorem kX12_isDone_99 : zD cX12_isDone 99 100 (.aload_n 0) 1 := by decide +kernel
theorem kX12_isDone_100 : zD cX12_isDone 100 101 (.aload_n 0) 1 := by decide +kernel
theorem kX12_isDone_101 : zD cX12_isDone 101 104 (.getfield 9) 3 := by decide +kernel
theorem kX12_isDone_104 : zD cX12_isDone 104 105 (.iconst 0) 1 := by decide +kernel
theorem kX12_isDone_105 : zD cX12_isDone 105 106 (.iaload) 1 := by decide +kernel
theorem kX12_isDone_106 : zD cX12_isDone 106 107 (.iconst 1) 1 := by decide +kernel
theorem kX12_isDone_107 : zD cX12_isDone 107 108 (.iload_n 2) 1 := by decide +kernel
theorem kX12_isDone_108 : zD cX12_isDone 108 109 (.ishl) 1 := by decide +kernel
theorem kX12_isDone_109 : zD cX12_isDone 109 112 (.invokevirtual 110) 3 := by decide +kernel
theorem kX12_isDone_112 : zD cX12_isDone 112 113 (.iastore) 1 := by decide +kernel
theorem kX12_isDone_113 : zD cX12_isDone 113 114 (.iconst 1) 1 := by decide +kernel
theorem kX12_isDone_114 : zD cX12_isDone 114 115 (.ireturn) 1 := by decide +kernel
theorem kX12_isDone_115 : zD cX12_isDone 115 116 (.aload_n 0) 1 := by decide +kernel
theorem kX12_isDone_116 : zD cX12_isDone 116 119 (.getfield 9) 3 := by decide +kernel
theorem kX12_isDone_119 : zD cX12_isDone 119 120 (.iconst 1) 1 := by decide +kernel
theorem kX12_isDone_120 : zD cX12_isDone 120 121 (.dup2) 1 := by decide +kernel
theorem kX12_isDone_121 : zD cX12_isDone 121 122 (.iaload) 1 := by decide +kernel
theorem kX12_isDone_122 : zD cX12_isDone 122 123 (.iconst 1) 1 := by decide +kernel
theorem kX12_isDone_123 : zD cX12_isDone 123 124 (.iload_n 2) 1 := by decide +kernel
theorem kX12_isDone_124 : zD cX12_isDone 124 125 (.ishl) 1 := by decide +kernel
theorem kX12_isDone_125 : zD cX12_isDone 125 126 (.ixor) 1 := by decide +kernel
theorem kX12_isDone_126 : zD cX12_isDone 126 127 (.iastore) 1 := by decide +kernel
theorem kX12_isDone_127 : zD cX12_isDone 127 128 (.aload_n 0) 1 := by decide +kernel
theorem kX12_isDone_128 : zD cX12_isDone 128 131 (.getfield 9) 3 := by decide +kernel
theorem kX12_isDone_131 : zD cX12_isDone 131 132 (.iconst 0) 1 := by decide +kernel
theorem kX12_isDone_132 : zD cX12_isDone 132 133 (.aload_n 0) 1 := by decide +kernel
theorem kX12_isDone_133 : zD cX12_isDone 133 134 (.aload_n 0) 1 := by decide +kernel
theorem kX12_isDone_134 : zD cX12_isDone 134 137 (.getfield 9) 3 := by decide +kernel
theorem kX12_isDone_137 : zD cX12_isDone 137 138 (.iconst 0) 1 := by decide +kernel
theorem kX12_isDone_138 : zD cX12_isDone 138 139 (.iaload) 1 := by decide +kernel
theorem kX12_isDone_139 : zD cX12_isDone 139 142 (.invokevirtual 104) 3 := by decide +kernel
theorem kX12_isDone_142 : zD cX12_isDone 142 143 (.iastore) 1 := by decide +kernel
theorem kX12_isDone_143 : zD cX12_isDone 143 144 (.iconst 1) 1 := by decide +kernel
theorem kX12_isDone_144 : zD cX12_isDone 144 145 (.ireturn) 1 := by decide +kernel
set_option maxRecDepth 10000 in
theorem wX12_isDone_0 {G : ZG} {d : Nat} {h : ZH} {Q : Option ZV → ZH → Prop} {x1 : Int32} 
  (H : zC G (d + 6) mX12_isPlace [zi (h.1 34 0 (0 : Int32).toNatClampNeg)] h (fun r2 h1 => ∃ y3 : Int32, r2 = some (zi y3) ∧ (¬ y3 = 0 → (x1 = 115 → zC G (d + 6) mX12_isThere [zr 5 0, zi (h.1 34 0 (0 : Int32).toNatClampNeg)] h1 (fun r5 h4 => ∃ y6 : Int32, r5 = some (zi y6) ∧ (¬ y6 = 0 → Q (some (zi 0)) h4) ∧ (y6 = 0 → ((h4.1 34 0 (1 : Int32).toNatClampNeg) < 8 → zC G (d + 6) mX12_laysAt [zr 5 0, zi (h.1 34 0 (0 : Int32).toNatClampNeg), zi (h4.1 34 0 (1 : Int32).toNatClampNeg), zi (h4.1 34 0 (2 : Int32).toNatClampNeg)] h4 (fun r8 h7 => r8 = none ∧ Q (some (zi 1)) h7)) ∧ (¬ (h4.1 34 0 (1 : Int32).toNatClampNeg) < 8 → Q (some (zi 0)) h4)))) ∧ (¬ x1 = 115 → (x1 = 120 → zC G (d + 6) mX12_isThere [zr 5 0, zi (h.1 34 0 (0 : Int32).toNatClampNeg)] h1 (fun r10 h9 => ∃ y11 : Int32, r10 = some (zi y11) ∧ (¬ y11 = 0 → zC G (d + 6) mX12_leftWithout [zr 5 0, zi (h9.1 30 0 (0 : Int32).toNatClampNeg), zi ((1 : Int32) <<< ((h.1 34 0 (0 : Int32).toNatClampNeg) &&& 31))] h9 (fun r13 h12 => ∃ y14 : Int32, r13 = some (zi y14) ∧ ∀ h15 : ZH, h15 = zs1 h12 30 0 (0 : Int32).toNatClampNeg y14 → Q (some (zi 1)) h15)) ∧ (y11 = 0 → Q (some (zi 0)) h9))) ∧ (¬ x1 = 120 → ∀ h16 : ZH, h16 = zs1 h1 30 0 (1 : Int32).toNatClampNeg ((h1.1 30 0 (1 : Int32).toNatClampNeg) ^^^ ((1 : Int32) <<< ((h.1 34 0 (0 : Int32).toNatClampNeg) &&& 31))) → zC G (d + 6) mX12_settled [zr 5 0, zi (h16.1 30 0 (0 : Int32).toNatClampNeg)] h16 (fun r18 h17 => ∃ y19 : Int32, r18 = some (zi y19) ∧ ∀ h20 : ZH, h20 = zs1 h17 30 0 (0 : Int32).toNatClampNeg y19 → Q (some (zi 1)) h20)))) ∧ (y3 = 0 → Q (some (zi 0)) h1))) :
  zT G (d + 7) mX12_isDone 0 [zr 5 0, zi x1, zu] [] h Q := by
  refine zt_aload_n kX12_isDone_0 rfl ?_
  refine zt_get (v := zr 34 0) kX12_isDone_1 fRX12_22 rfl (by decide) rfl ?_
  refine zt_iconst (v := 0) kX12_isDone_4 rfl ?_
  refine zt_iald kX12_isDone_5 rfl (by decide) (zvp_dec (by decide)) ?_
  refine zt_istore_n (L' := [zr 5 0, zi x1, zi (h.1 34 0 (0 : Int32).toNatClampNeg)]) kX12_isDone_6 (by decide) rfl ?_
  refine zt_iload_n kX12_isDone_7 rfl ?_
  refine zt_cS (as := [zi (h.1 34 0 (0 : Int32).toNatClampNeg)]) kX12_isDone_8 sRX12_130 rfl (by simp) rfl H (fun r2 h1 H => ?_)
  obtain ⟨y3, rfl, H⟩ := H
  refine zt_if_ne kX12_isDone_11 (fun c => ?_) (fun c => ?_)
  · replace H := H.1 c
    refine zt_iload_n kX12_isDone_16 rfl ?_
    rcases Classical.em (x1 = 115) with c0 | c0
    · replace H := H.1 c0
      refine zt_lookup (off := 27) (tgt := 44) kX12_isDone_17 (by decide) (by first | (rw [c0]; done) | (rw [c0]; rfl)) (by decide) ?_
      refine zt_aload_n kX12_isDone_44 rfl ?_
      refine zt_iload_n kX12_isDone_45 rfl ?_
      refine zt_cV (as := [zi (h.1 34 0 (0 : Int32).toNatClampNeg)]) kX12_isDone_46 sRX12_133 rfl (by decide) rfl (by simp) rfl H (fun r5 h4 H => ?_)
      obtain ⟨y6, rfl, H⟩ := H
      refine zt_if_ne kX12_isDone_49 (fun c => ?_) (fun c => ?_)
      · replace H := H.1 c
        refine zt_iconst (v := 0) kX12_isDone_63 rfl ?_
        exact zt_zret kX12_isDone_64 rfl (by decide) H
      · replace H := H.2 c
        refine zt_aload_n kX12_isDone_52 rfl ?_
        refine zt_get (v := zr 34 0) kX12_isDone_53 fRX12_22 rfl (by decide) rfl ?_
        refine zt_iconst (v := 1) kX12_isDone_56 rfl ?_
        refine zt_iald kX12_isDone_57 rfl (by decide) (zvp_dec (by decide)) ?_
        refine zt_bipush (v := 8) kX12_isDone_58 rfl ?_
        refine zt_icmp_lt kX12_isDone_60 (fun c => ?_) (fun c => ?_)
        · replace H := H.1 c
          refine zt_aload_n kX12_isDone_65 rfl ?_
          refine zt_iload_n kX12_isDone_66 rfl ?_
          refine zt_aload_n kX12_isDone_67 rfl ?_
          refine zt_get (v := zr 34 0) kX12_isDone_68 fRX12_22 rfl (by decide) rfl ?_
          refine zt_iconst (v := 1) kX12_isDone_71 rfl ?_
          refine zt_iald kX12_isDone_72 rfl (by decide) (zvp_dec (by decide)) ?_
          refine zt_aload_n kX12_isDone_73 rfl ?_
          refine zt_get (v := zr 34 0) kX12_isDone_74 fRX12_22 rfl (by decide) rfl ?_
          refine zt_iconst (v := 2) kX12_isDone_77 rfl ?_
          refine zt_iald kX12_isDone_78 rfl (by decide) (zvp_dec (by decide)) ?_
          refine zt_cV (as := [zi (h.1 34 0 (0 : Int32).toNatClampNeg), zi (h4.1 34 0 (1 : Int32).toNatClampNeg), zi (h4.1 34 0 (2 : Int32).toNatClampNeg)]) kX12_isDone_79 sRX12_136 rfl (by decide) rfl (by simp) rfl H (fun r8 h7 H => ?_)
          obtain ⟨rfl, H⟩ := H
          refine zt_iconst (v := 1) kX12_isDone_82 rfl ?_
          exact zt_zret kX12_isDone_83 rfl (by decide) H
        · replace H := H.2 c
          refine zt_iconst (v := 0) kX12_isDone_63 rfl ?_
          exact zt_zret kX12_isDone_64 rfl (by decide) H
    replace H := H.2 c0
    rcases Classical.em (x1 = 120) with c1 | c1
    · replace H := H.1 c1
      refine zt_lookup (off := 67) (tgt := 84) kX12_isDone_17 (by decide) (by first | (rw [c1]; done) | (rw [c1]; rfl)) (by decide) ?_
      refine zt_aload_n kX12_isDone_84 rfl ?_
      refine zt_iload_n kX12_isDone_85 rfl ?_
      refine zt_cV (as := [zi (h.1 34 0 (0 : Int32).toNatClampNeg)]) kX12_isDone_86 sRX12_133 rfl (by decide) rfl (by simp) rfl H (fun r10 h9 H => ?_)
      obtain ⟨y11, rfl, H⟩ := H
      refine zt_if_ne kX12_isDone_89 (fun c => ?_) (fun c => ?_)
      · replace H := H.1 c
        refine zt_aload_n kX12_isDone_94 rfl ?_
        refine zt_get (v := zr 30 0) kX12_isDone_95 fRX12_9 rfl (by decide) rfl ?_
        refine zt_iconst (v := 0) kX12_isDone_98 rfl ?_
        refine zt_aload_n kX12_isDone_99 rfl ?_
        refine zt_aload_n kX12_isDone_100 rfl ?_
        refine zt_get (v := zr 30 0) kX12_isDone_101 fRX12_9 rfl (by decide) rfl ?_
        refine zt_iconst (v := 0) kX12_isDone_104 rfl ?_
        refine zt_iald kX12_isDone_105 rfl (by decide) (zvp_dec (by decide)) ?_
        refine zt_iconst (v := 1) kX12_isDone_106 rfl ?_
        refine zt_iload_n kX12_isDone_107 rfl ?_
        refine zt_ishl kX12_isDone_108 ?_
        refine zt_cV (as := [zi (h9.1 30 0 (0 : Int32).toNatClampNeg), zi ((1 : Int32) <<< ((h.1 34 0 (0 : Int32).toNatClampNeg) &&& 31))]) kX12_isDone_109 sRX12_110 rfl (by decide) rfl (by simp) rfl H (fun r13 h12 H => ?_)
        obtain ⟨y14, rfl, H⟩ := H
        refine zt_iast kX12_isDone_112 rfl (by decide) (zvp_dec (by decide)) ?_
        refine zt_heap (fun h15 eh15 => ?_)
        replace H := H h15 eh15
        refine zt_iconst (v := 1) kX12_isDone_113 rfl ?_
        exact zt_zret kX12_isDone_114 rfl (by decide) H
      · replace H := H.2 c
        refine zt_iconst (v := 0) kX12_isDone_92 rfl ?_
        exact zt_zret kX12_isDone_93 rfl (by decide) H
    replace H := H.2 c1
    refine zt_lookup (off := 98) (tgt := 115) kX12_isDone_17 (by decide) (by show Op.lookupswitch.offset [(115, 27), (120, 67)] 98 _ = _; rw [lv_osw (a := 115) c0 rfl, lv_osw (a := 120) c1 rfl]; rfl) (by decide) ?_
    refine zt_aload_n kX12_isDone_115 rfl ?_
    refine zt_get (v := zr 30 0) kX12_isDone_116 fRX12_9 rfl (by decide) rfl ?_
    refine zt_iconst (v := 1) kX12_isDone_119 rfl ?_
    refine zt_dup2 kX12_isDone_120 (by intro x q; cases q) (by intro x q; cases q) ?_
    refine zt_iald kX12_isDone_121 rfl (by decide) (zvp_dec (by decide)) ?_
    refine zt_iconst (v := 1) kX12_isDone_122 rfl ?_
    refine zt_iload_n kX12_isDone_123 rfl ?_
    refine zt_ishl kX12_isDone_124 ?_
    refine zt_ixor kX12_isDone_125 ?_
    refine zt_iast kX12_isDone_126 rfl (by decide) (zvp_dec (by decide)) ?_
    refine zt_heap (fun h16 eh16 => ?_)
    replace H := H h16 eh16
    refine zt_aload_n kX12_isDone_127 rfl ?_
    refine zt_get (v := zr 30 0) kX12_isDone_128 fRX12_9 rfl (by decide) rfl ?_
    refine zt_iconst (v := 0) kX12_isDone_131 rfl ?_
    refine zt_aload_n kX12_isDone_132 rfl ?_
    refine zt_aload_n kX12_isDone_133 rfl ?_
    refine zt_get (v := zr 30 0) kX12_isDone_134 fRX12_9 rfl (by decide) rfl ?_
    refine zt_iconst (v := 0) kX12_isDone_137 rfl ?_
    refine zt_iald kX12_isDone_138 rfl (by decide) (zvp_dec (by decide)) ?_
    refine zt_cV (as := [zi (h16.1 30 0 (0 : Int32).toNatClampNeg)]) kX12_isDone_139 sRX12_104 rfl (by decide) rfl (by simp) rfl H (fun r18 h17 H => ?_)
    obtain ⟨y19, rfl, H⟩ := H
    refine zt_iast kX12_isDone_142 rfl (by decide) (zvp_dec (by decide)) ?_
    refine zt_heap (fun h20 eh20 => ?_)
    replace H := H h20 eh20
    refine zt_iconst (v := 1) kX12_isDone_143 rfl ?_
    exact zt_zret kX12_isDone_144 rfl (by decide) H
  · replace H := H.2 c
    refine zt_iconst (v := 0) kX12_isDone_14 rfl ?_
    exact zt_zret kX12_isDone_15 rfl (by decide) H

