/-! ===== the bytecode of these methods, walked (by program): X12_isHeld X12_loads ===== -/
theorem kX12_isHeld_0 : zD cX12_isHeld 0 1 (.iload_n 2) 1 := by decide +kernel
theorem kX12_isHeld_1 : zD cX12_isHeld 1 2 (.iconst 4) 1 := by decide +kernel
theorem kX12_isHeld_2 : zB cX12_isHeld 2 5 28 (.if_icmp .lt 26) 26 := by decide +kernel
theorem kX12_isHeld_5 : zD cX12_isHeld 5 6 (.aload_n 0) 1 := by decide +kernel
theorem kX12_isHeld_6 : zD cX12_isHeld 6 9 (.getfield 9) 3 := by decide +kernel
theorem kX12_isHeld_9 : zD cX12_isHeld 9 10 (.iconst 1) 1 := by decide +kernel
theorem kX12_isHeld_10 : zD cX12_isHeld 10 11 (.iaload) 1 := by decide +kernel
theorem kX12_isHeld_11 : zD cX12_isHeld 11 12 (.iload_n 2) 1 := by decide +kernel
theorem kX12_isHeld_12 : zD cX12_isHeld 12 15 (.invokestatic 57) 3 := by decide +kernel
theorem kX12_isHeld_15 : zB cX12_isHeld 15 18 28 (.ifCond .ne 13) 13 := by decide +kernel
theorem kX12_isHeld_18 : zD cX12_isHeld 18 19 (.iload_n 1) 1 := by decide +kernel
theorem kX12_isHeld_19 : zD cX12_isHeld 19 20 (.iload_n 2) 1 := by decide +kernel
theorem kX12_isHeld_20 : zD cX12_isHeld 20 21 (.iconst 4) 1 := by decide +kernel
theorem kX12_isHeld_21 : zD cX12_isHeld 21 22 (.isub) 1 := by decide +kernel
theorem kX12_isHeld_22 : zD cX12_isHeld 22 25 (.invokestatic 57) 3 := by decide +kernel
theorem kX12_isHeld_25 : zB cX12_isHeld 25 28 30 (.ifCond .eq 5) 5 := by decide +kernel
theorem kX12_isHeld_28 : zD cX12_isHeld 28 29 (.iconst 1) 1 := by decide +kernel
theorem kX12_isHeld_29 : zD cX12_isHeld 29 30 (.ireturn) 1 := by decide +kernel
theorem kX12_isHeld_30 : zD cX12_isHeld 30 31 (.aload_n 0) 1 := by decide +kernel
theorem kX12_isHeld_31 : zD cX12_isHeld 31 32 (.iload_n 2) 1 := by decide +kernel
theorem kX12_isHeld_32 : zD cX12_isHeld 32 35 (.invokevirtual 75) 3 := by decide +kernel
theorem kX12_isHeld_35 : zB cX12_isHeld 35 38 62 (.ifCond .eq 27) 27 := by decide +kernel
theorem kX12_isHeld_38 : zD cX12_isHeld 38 39 (.aload_n 0) 1 := by decide +kernel
theorem kX12_isHeld_39 : zD cX12_isHeld 39 40 (.iload_n 1) 1 := by decide +kernel
theorem kX12_isHeld_40 : zD cX12_isHeld 40 41 (.iload_n 2) 1 := by decide +kernel
theorem kX12_isHeld_41 : zD cX12_isHeld 41 44 (.invokevirtual 78) 3 := by decide +kernel
theorem kX12_isHeld_44 : zB cX12_isHeld 44 47 60 (.ifCond .eq 16) 16 := by decide +kernel
theorem kX12_isHeld_47 : zD cX12_isHeld 47 48 (.aload_n 0) 1 := by decide +kernel
theorem kX12_isHeld_48 : zD cX12_isHeld 48 49 (.iload_n 1) 1 := by decide +kernel
theorem kX12_isHeld_49 : zD cX12_isHeld 49 50 (.iload_n 2) 1 := by decide +kernel
theorem kX12_isHeld_50 : zD cX12_isHeld 50 53 (.invokevirtual 81) 3 := by decide +kernel
theorem kX12_isHeld_53 : zB cX12_isHeld 53 56 60 (.ifCond .eq 7) 7 := by decide +kernel
theorem kX12_isHeld_56 : zD cX12_isHeld 56 57 (.iconst 1) 1 := by decide +kernel
theorem kX12_isHeld_57 : zB cX12_isHeld 57 60 61 (.goto 4) 4 := by decide +kernel
theorem kX12_isHeld_60 : zD cX12_isHeld 60 61 (.iconst 0) 1 := by decide +kernel
theorem kX12_isHeld_61 : zD cX12_isHeld 61 62 (.ireturn) 1 := by decide +kernel
theorem kX12_isHeld_62 : zD cX12_isHeld 62 63 (.aload_n 0) 1 := by decide +kernel
theorem kX12_isHeld_63 : zD cX12_isHeld 63 64 (.iload_n 2) 1 := by decide +kernel
theorem kX12_isHeld_64 : zD cX12_isHeld 64 67 (.invokevirtual 65) 3 := by decide +kernel
theorem kX12_isHeld_67 : zD cX12_isHeld 67 69 (.bipush 6) 2 := by decide +kernel
theorem kX12_isHeld_69 : zB cX12_isHeld 69 72 96 (.if_icmp .ne 27) 27 := by decide +kernel
theorem kX12_isHeld_72 : zD cX12_isHeld 72 73 (.aload_n 0) 1 := by decide +kernel
theorem kX12_isHeld_73 : zD cX12_isHeld 73 74 (.iload_n 1) 1 := by decide +kernel
theorem kX12_isHeld_74 : zD cX12_isHeld 74 75 (.iload_n 2) 1 := by decide +kernel
theorem kX12_isHeld_75 : zD cX12_isHeld 75 78 (.invokevirtual 78) 3 := by decide +kernel
theorem kX12_isHeld_78 : zB cX12_isHeld 78 81 90 (.ifCond .ne 12) 12 := by decide +kernel
theorem kX12_isHeld_81 : zD cX12_isHeld 81 82 (.aload_n 0) 1 := by decide +kernel
theorem kX12_isHeld_82 : zD cX12_isHeld 82 83 (.iload_n 1) 1 := by decide +kernel
theorem kX12_isHeld_83 : zD cX12_isHeld 83 84 (.iload_n 2) 1 := by decide +kernel
theorem kX12_isHeld_84 : zD cX12_isHeld 84 87 (.invokevirtual 81) 3 := by decide +kernel
theorem kX12_isHeld_87 : zB cX12_isHeld 87 90 94 (.ifCond .eq 7) 7 := by decide +kernel
theorem kX12_isHeld_90 : zD cX12_isHeld 90 91 (.iconst 1) 1 := by decide +kernel
theorem kX12_isHeld_91 : zB cX12_isHeld 91 94 95 (.goto 4) 4 := by decide +kernel
theorem kX12_isHeld_94 : zD cX12_isHeld 94 95 (.iconst 0) 1 := by decide +kernel
theorem kX12_isHeld_95 : zD cX12_isHeld 95 96 (.ireturn) 1 := by decide +kernel
theorem kX12_isHeld_96 : zD cX12_isHeld 96 97 (.aload_n 0) 1 := by decide +kernel
theorem kX12_isHeld_97 : zD cX12_isHeld 97 98 (.iload_n 2) 1 := by decide +kernel
theorem kX12_isHeld_98 : zD cX12_isHeld 98 101 (.invokevirtual 71) 3 := by decide +kernel
theorem kX12_isHeld_101 : zB cX12_isHeld 101 104 117 (.ifCond .eq 16) 16 := by decide +kernel
theorem kX12_isHeld_104 : zD cX12_isHeld 104 105 (.aload_n 0) 1 := by decide +kernel
theorem kX12_isHeld_105 : zD cX12_isHeld 105 106 (.iload_n 1) 1 := by decide +kernel
theorem kX12_isHeld_106 : zD cX12_isHeld 106 107 (.iload_n 2) 1 := by decide +kernel
theorem kX12_isHeld_107 : zD cX12_isHeld 107 110 (.invokevirtual 84) 3 := by decide +kernel
theorem kX12_isHeld_110 : zB cX12_isHeld 110 113 117 (.ifCond .eq 7) 7 := by decide +kernel
theorem kX12_isHeld_113 : zD cX12_isHeld 113 114 (.iconst 1) 1 := by decide +kernel
theorem kX12_isHeld_114 : zB cX12_isHeld 114 117 118 (.goto 4) 4 := by decide +kernel
theorem kX12_isHeld_117 : zD cX12_isHeld 117 118 (.iconst 0) 1 := by decide +kernel
theorem kX12_isHeld_118 : zD cX12_isHeld 118 119 (.ireturn) 1 := by decide +kernel
set_option maxRecDepth 10000 in
theorem wX12_isHeld_0 {G : ZG} {d : Nat} {h : ZH} {Q : Option ZV → ZH → Prop} {x1 : Int32} {x2 : Int32} 
  (H : (x2 < 4 → Q (some (zi 1)) h) ∧ (¬ x2 < 4 → ((hasI (h.1 30 0 1) x2) → Q (some (zi 1)) h) ∧ (¬ (hasI (h.1 30 0 1) x2) → (¬ (hasI x1 (x2 - 4)) → vp_in x2 12 ∧ ((¬ (archK (kindI h x2)) → vp_in x2 12 ∧ ((¬ (kindI h x2) = 6 → vp_in x2 12 ∧ ((¬ (lightK (kindI h x2)) → Q (some (zi 0)) h) ∧ ((lightK (kindI h x2)) → vp_in x2 12 ∧ ((¬ (clingI h x1 x2) → Q (some (zi 0)) h) ∧ ((clingI h x1 x2) → Q (some (zi 1)) h))))) ∧ ((kindI h x2) = 6 → ((leftI x1 x2) → Q (some (zi 1)) h) ∧ (¬ (leftI x1 x2) → (¬ (rightI x1 x2) → Q (some (zi 0)) h) ∧ ((rightI x1 x2) → Q (some (zi 1)) h))))) ∧ ((archK (kindI h x2)) → (¬ (leftI x1 x2) → Q (some (zi 0)) h) ∧ ((leftI x1 x2) → (¬ (rightI x1 x2) → Q (some (zi 0)) h) ∧ ((rightI x1 x2) → Q (some (zi 1)) h))))) ∧ ((hasI x1 (x2 - 4)) → Q (some (zi 1)) h)))) :
  zT G (d + 4) mX12_isHeld 0 [zr 5 0, zi x1, zi x2] [] h Q := by
  refine zt_iload_n kX12_isHeld_0 rfl ?_
  refine zt_iconst (v := 4) kX12_isHeld_1 rfl ?_
  refine zt_icmp_lt kX12_isHeld_2 (fun c => ?_) (fun c => ?_)
  · replace H := H.1 c
    refine zt_iconst (v := 1) kX12_isHeld_28 rfl ?_
    exact zt_zret kX12_isHeld_29 rfl (by decide) H
  · replace H := H.2 c
    refine zt_aload_n kX12_isHeld_5 rfl ?_
    refine zt_get (v := zr 30 0) kX12_isHeld_6 fRX12_9 rfl (by decide) rfl ?_
    refine zt_iconst (v := 1) kX12_isHeld_9 rfl ?_
    refine zt_ialdc 1 rfl kX12_isHeld_10 rfl (by decide) (zvp_dec (by decide)) ?_
    refine zt_iload_n kX12_isHeld_11 rfl ?_
    refine zt_cS (as := [zi (h.1 30 0 1), zi x2]) kX12_isHeld_12 sRX12_57 rfl (by simp) rfl (sX12_has _  ) (fun r h0 hq => ?_)
    obtain ⟨rfl, hh⟩ := hq
    replace hh := hh.symm
    subst hh
    refine zt_ifb_ne kX12_isHeld_15 (fun c => ?_) (fun c => ?_)
    · replace H := H.1 c
      refine zt_iconst (v := 1) kX12_isHeld_28 rfl ?_
      exact zt_zret kX12_isHeld_29 rfl (by decide) H
    · replace H := H.2 c
      refine zt_iload_n kX12_isHeld_18 rfl ?_
      refine zt_iload_n kX12_isHeld_19 rfl ?_
      refine zt_iconst (v := 4) kX12_isHeld_20 rfl ?_
      refine zt_isub kX12_isHeld_21 ?_
      refine zt_cS (as := [zi x1, zi (x2 - 4)]) kX12_isHeld_22 sRX12_57 rfl (by simp) rfl (sX12_has _  ) (fun r h0 hq => ?_)
      obtain ⟨rfl, hh⟩ := hq
      replace hh := hh.symm
      subst hh
      refine zt_ifb_eq kX12_isHeld_25 (fun c => ?_) (fun c => ?_)
      · replace H := H.1 c
        refine zt_aload_n kX12_isHeld_30 rfl ?_
        refine zt_iload_n kX12_isHeld_31 rfl ?_
        obtain ⟨pp0, H⟩ := H
        refine zt_cV (as := [zi x2]) kX12_isHeld_32 sRX12_75 rfl (by decide) rfl (by simp) rfl (sX12_isArch _  pp0) (fun r h0 hq => ?_)
        obtain ⟨rfl, hh⟩ := hq
        replace hh := hh.symm
        subst hh
        refine zt_ifb_eq kX12_isHeld_35 (fun c => ?_) (fun c => ?_)
        · replace H := H.1 c
          refine zt_aload_n kX12_isHeld_62 rfl ?_
          refine zt_iload_n kX12_isHeld_63 rfl ?_
          obtain ⟨pp0, H⟩ := H
          refine zt_cV (as := [zi x2]) kX12_isHeld_64 sRX12_65 rfl (by decide) rfl (by simp) rfl (sX12_kind _  pp0) (fun r h0 hq => ?_)
          obtain ⟨rfl, hh⟩ := hq
          replace hh := hh.symm
          subst hh
          refine zt_bipush (v := 6) kX12_isHeld_67 rfl ?_
          refine zt_icmp_ne kX12_isHeld_69 (fun c => ?_) (fun c => ?_)
          · replace H := H.1 c
            refine zt_aload_n kX12_isHeld_96 rfl ?_
            refine zt_iload_n kX12_isHeld_97 rfl ?_
            obtain ⟨pp0, H⟩ := H
            refine zt_cV (as := [zi x2]) kX12_isHeld_98 sRX12_71 rfl (by decide) rfl (by simp) rfl (sX12_isLight _  pp0) (fun r h0 hq => ?_)
            obtain ⟨rfl, hh⟩ := hq
            replace hh := hh.symm
            subst hh
            refine zt_ifb_eq kX12_isHeld_101 (fun c => ?_) (fun c => ?_)
            · replace H := H.1 c
              refine zt_iconst (v := 0) kX12_isHeld_117 rfl ?_
              exact zt_zret kX12_isHeld_118 rfl (by decide) H
            · replace H := H.2 c
              refine zt_aload_n kX12_isHeld_104 rfl ?_
              refine zt_iload_n kX12_isHeld_105 rfl ?_
              refine zt_iload_n kX12_isHeld_106 rfl ?_
              obtain ⟨pp0, H⟩ := H
              refine zt_cV (as := [zi x1, zi x2]) kX12_isHeld_107 sRX12_84 rfl (by decide) rfl (by simp) rfl (sX12_isClinging _  pp0) (fun r h0 hq => ?_)
              obtain ⟨rfl, hh⟩ := hq
              replace hh := hh.symm
              subst hh
              refine zt_ifb_eq kX12_isHeld_110 (fun c => ?_) (fun c => ?_)
              · replace H := H.1 c
                refine zt_iconst (v := 0) kX12_isHeld_117 rfl ?_
                exact zt_zret kX12_isHeld_118 rfl (by decide) H
              · replace H := H.2 c
                refine zt_iconst (v := 1) kX12_isHeld_113 rfl ?_
                refine zt_goto kX12_isHeld_114 ?_
                exact zt_zret kX12_isHeld_118 rfl (by decide) H
          · replace H := H.2 c
            refine zt_aload_n kX12_isHeld_72 rfl ?_
            refine zt_iload_n kX12_isHeld_73 rfl ?_
            refine zt_iload_n kX12_isHeld_74 rfl ?_
            refine zt_cV (as := [zi x1, zi x2]) kX12_isHeld_75 sRX12_78 rfl (by decide) rfl (by simp) rfl (sX12_isLeft _  ) (fun r h0 hq => ?_)
            obtain ⟨rfl, hh⟩ := hq
            replace hh := hh.symm
            subst hh
            refine zt_ifb_ne kX12_isHeld_78 (fun c => ?_) (fun c => ?_)
            · replace H := H.1 c
              refine zt_iconst (v := 1) kX12_isHeld_90 rfl ?_
              refine zt_goto kX12_isHeld_91 ?_
              exact zt_zret kX12_isHeld_95 rfl (by decide) H
            · replace H := H.2 c
              refine zt_aload_n kX12_isHeld_81 rfl ?_
              refine zt_iload_n kX12_isHeld_82 rfl ?_
              refine zt_iload_n kX12_isHeld_83 rfl ?_
              refine zt_cV (as := [zi x1, zi x2]) kX12_isHeld_84 sRX12_81 rfl (by decide) rfl (by simp) rfl (sX12_isRight _  ) (fun r h0 hq => ?_)
              obtain ⟨rfl, hh⟩ := hq
              replace hh := hh.symm
              subst hh
              refine zt_ifb_eq kX12_isHeld_87 (fun c => ?_) (fun c => ?_)
              · replace H := H.1 c
                refine zt_iconst (v := 0) kX12_isHeld_94 rfl ?_
                exact zt_zret kX12_isHeld_95 rfl (by decide) H
              · replace H := H.2 c
                refine zt_iconst (v := 1) kX12_isHeld_90 rfl ?_
                refine zt_goto kX12_isHeld_91 ?_
                exact zt_zret kX12_isHeld_95 rfl (by decide) H
        · replace H := H.2 c
          refine zt_aload_n kX12_isHeld_38 rfl ?_
          refine zt_iload_n kX12_isHeld_39 rfl ?_
          refine zt_iload_n kX12_isHeld_40 rfl ?_
          refine zt_cV (as := [zi x1, zi x2]) kX12_isHeld_41 sRX12_78 rfl (by decide) rfl (by simp) rfl (sX12_isLeft _  ) (fun r h0 hq => ?_)
          obtain ⟨rfl, hh⟩ := hq
          replace hh := hh.symm
          subst hh
          refine zt_ifb_eq kX12_isHeld_44 (fun c => ?_) (fun c => ?_)
          · replace H := H.1 c
            refine zt_iconst (v := 0) kX12_isHeld_60 rfl ?_
            exact zt_zret kX12_isHeld_61 rfl (by decide) H
          · replace H := H.2 c
            refine zt_aload_n kX12_isHeld_47 rfl ?_
            refine zt_iload_n kX12_isHeld_48 rfl ?_
            refine zt_iload_n kX12_isHeld_49 rfl ?_
            refine zt_cV (as := [zi x1, zi x2]) kX12_isHeld_50 sRX12_81 rfl (by decide) rfl (by simp) rfl (sX12_isRight _  ) (fun r h0 hq => ?_)
            obtain ⟨rfl, hh⟩ := hq
            replace hh := hh.symm
            subst hh
            refine zt_ifb_eq kX12_isHeld_53 (fun c => ?_) (fun c => ?_)
            · replace H := H.1 c
              refine zt_iconst (v := 0) kX12_isHeld_60 rfl ?_
              exact zt_zret kX12_isHeld_61 rfl (by decide) H
            · replace H := H.2 c
              refine zt_iconst (v := 1) kX12_isHeld_56 rfl ?_
              refine zt_goto kX12_isHeld_57 ?_
              exact zt_zret kX12_isHeld_61 rfl (by decide) H
      · replace H := H.2 c
        refine zt_iconst (v := 1) kX12_isHeld_28 rfl ?_
        exact zt_zret kX12_isHeld_29 rfl (by decide) H

theorem kX12_loads_0 : zD cX12_loads 0 1 (.iconst 0) 1 := by decide +kernel
theorem kX12_loads_1 : zD cX12_loads 1 2 (.istore_n 2) 1 := by decide +kernel
theorem kX12_loads_2 : zD cX12_loads 2 3 (.iload_n 2) 1 := by decide +kernel
theorem kX12_loads_3 : zD cX12_loads 3 5 (.bipush 12) 2 := by decide +kernel
theorem kX12_loads_5 : zB cX12_loads 5 8 21 (.if_icmp .ge 16) 16 := by decide +kernel
theorem kX12_loads_8 : zD cX12_loads 8 9 (.aload_n 0) 1 := by decide +kernel
theorem kX12_loads_9 : zD cX12_loads 9 12 (.getfield 19) 3 := by decide +kernel
theorem kX12_loads_12 : zD cX12_loads 12 13 (.iload_n 2) 1 := by decide +kernel
theorem kX12_loads_13 : zD cX12_loads 13 14 (.iconst 0) 1 := by decide +kernel
theorem kX12_loads_14 : zD cX12_loads 14 15 (.iastore) 1 := by decide +kernel
theorem kX12_loads_15 : zD cX12_loads 15 18 (.iinc 2 1) 3 := by decide +kernel
theorem kX12_loads_18 : zB cX12_loads 18 21 2 (.goto (-16)) (-16) := by decide +kernel
theorem kX12_loads_21 : zD cX12_loads 21 23 (.bipush 11) 2 := by decide +kernel
theorem kX12_loads_23 : zD cX12_loads 23 24 (.istore_n 2) 1 := by decide +kernel
theorem kX12_loads_24 : zD cX12_loads 24 25 (.iload_n 2) 1 := by decide +kernel
theorem kX12_loads_25 : zD cX12_loads 25 26 (.iconst 4) 1 := by decide +kernel
theorem kX12_loads_26 : zB cX12_loads 26 29 228 (.if_icmp .lt 202) 202 := by decide +kernel
theorem kX12_loads_29 : zD cX12_loads 29 30 (.iload_n 1) 1 := by decide +kernel
theorem kX12_loads_30 : zD cX12_loads 30 31 (.iload_n 2) 1 := by decide +kernel
theorem kX12_loads_31 : zD cX12_loads 31 34 (.invokestatic 57) 3 := by decide +kernel
theorem kX12_loads_34 : zB cX12_loads 34 37 222 (.ifCond .eq 188) 188 := by decide +kernel
theorem kX12_loads_37 : zD cX12_loads 37 38 (.aload_n 0) 1 := by decide +kernel
theorem kX12_loads_38 : zD cX12_loads 38 41 (.getfield 9) 3 := by decide +kernel
theorem kX12_loads_41 : zD cX12_loads 41 42 (.iconst 1) 1 := by decide +kernel
theorem kX12_loads_42 : zD cX12_loads 42 43 (.iaload) 1 := by decide +kernel
theorem kX12_loads_43 : zD cX12_loads 43 44 (.iload_n 2) 1 := by decide +kernel
theorem kX12_loads_44 : zD cX12_loads 44 47 (.invokestatic 57) 3 := by decide +kernel
theorem kX12_loads_47 : zB cX12_loads 47 50 53 (.ifCond .eq 6) 6 := by decide +kernel
theorem kX12_loads_50 : zB cX12_loads 50 53 222 (.goto 172) 172 := by decide +kernel
theorem kX12_loads_53 : zD cX12_loads 53 54 (.aload_n 0) 1 := by decide +kernel
theorem kX12_loads_54 : zD cX12_loads 54 55 (.iload_n 2) 1 := by decide +kernel
theorem kX12_loads_55 : zD cX12_loads 55 58 (.invokevirtual 87) 3 := by decide +kernel
theorem kX12_loads_58 : zD cX12_loads 58 59 (.aload_n 0) 1 := by decide +kernel
theorem kX12_loads_59 : zD cX12_loads 59 62 (.getfield 19) 3 := by decide +kernel
theorem kX12_loads_62 : zD cX12_loads 62 63 (.iload_n 2) 1 := by decide +kernel
theorem kX12_loads_63 : zD cX12_loads 63 64 (.iaload) 1 := by decide +kernel
theorem kX12_loads_64 : zD cX12_loads 64 65 (.iadd) 1 := by decide +kernel
theorem kX12_loads_65 : zD cX12_loads 65 66 (.istore_n 3) 1 := by decide +kernel
theorem kX12_loads_66 : zD cX12_loads 66 67 (.iload_n 2) 1 := by decide +kernel
theorem kX12_loads_67 : zD cX12_loads 67 68 (.iconst 4) 1 := by decide +kernel
theorem kX12_loads_68 : zD cX12_loads 68 69 (.isub) 1 := by decide +kernel
theorem kX12_loads_69 : zD cX12_loads 69 71 (.istore 4) 2 := by decide +kernel
theorem kX12_loads_71 : zD cX12_loads 71 72 (.iload_n 1) 1 := by decide +kernel
theorem kX12_loads_72 : zD cX12_loads 72 74 (.iload 4) 2 := by decide +kernel
theorem kX12_loads_74 : zD cX12_loads 74 77 (.invokestatic 57) 3 := by decide +kernel
theorem kX12_loads_77 : zB cX12_loads 77 80 94 (.ifCond .eq 17) 17 := by decide +kernel
theorem kX12_loads_80 : zD cX12_loads 80 81 (.aload_n 0) 1 := by decide +kernel
theorem kX12_loads_81 : zD cX12_loads 81 84 (.getfield 19) 3 := by decide +kernel
theorem kX12_loads_84 : zD cX12_loads 84 86 (.iload 4) 2 := by decide +kernel
theorem kX12_loads_86 : zD cX12_loads 86 87 (.dup2) 1 := by decide +kernel
theorem kX12_loads_87 : zD cX12_loads 87 88 (.iaload) 1 := by decide +kernel
theorem kX12_loads_88 : zD cX12_loads 88 89 (.iload_n 3) 1 := by decide +kernel
theorem kX12_loads_89 : zD cX12_loads 89 90 (.iadd) 1 := by decide +kernel
theorem kX12_loads_90 : zD cX12_loads 90 91 (.iastore) 1 := by decide +kernel
theorem kX12_loads_91 : zB cX12_loads 91 94 222 (.goto 131) 131 := by decide +kernel
theorem kX12_loads_94 : zD cX12_loads 94 95 (.aload_n 0) 1 := by decide +kernel
theorem kX12_loads_95 : zD cX12_loads 95 96 (.iload_n 2) 1 := by decide +kernel
theorem kX12_loads_96 : zD cX12_loads 96 99 (.invokevirtual 75) 3 := by decide +kernel
theorem kX12_loads_99 : zB cX12_loads 99 102 155 (.ifCond .eq 56) 56 := by decide +kernel
theorem kX12_loads_102 : zD cX12_loads 102 103 (.aload_n 0) 1 := by decide +kernel
theorem kX12_loads_103 : zD cX12_loads 103 104 (.iload_n 1) 1 := by decide +kernel
theorem kX12_loads_104 : zD cX12_loads 104 105 (.iload_n 2) 1 := by decide +kernel
theorem kX12_loads_105 : zD cX12_loads 105 108 (.invokevirtual 78) 3 := by decide +kernel
theorem kX12_loads_108 : zB cX12_loads 108 111 155 (.ifCond .eq 47) 47 := by decide +kernel
theorem kX12_loads_111 : zD cX12_loads 111 112 (.aload_n 0) 1 := by decide +kernel
theorem kX12_loads_112 : zD cX12_loads 112 113 (.iload_n 1) 1 := by decide +kernel
theorem kX12_loads_113 : zD cX12_loads 113 114 (.iload_n 2) 1 := by decide +kernel
theorem kX12_loads_114 : zD cX12_loads 114 117 (.invokevirtual 81) 3 := by decide +kernel
theorem kX12_loads_117 : zB cX12_loads 117 120 155 (.ifCond .eq 38) 38 := by decide +kernel
theorem kX12_loads_120 : zD cX12_loads 120 121 (.aload_n 0) 1 := by decide +kernel
theorem kX12_loads_121 : zD cX12_loads 121 124 (.getfield 19) 3 := by decide +kernel
theorem kX12_loads_124 : zD cX12_loads 124 126 (.iload 4) 2 := by decide +kernel
theorem kX12_loads_126 : zD cX12_loads 126 127 (.iconst 1) 1 := by decide +kernel
theorem kX12_loads_127 : zD cX12_loads 127 128 (.isub) 1 := by decide +kernel
theorem kX12_loads_128 : zD cX12_loads 128 129 (.dup2) 1 := by decide +kernel
theorem kX12_loads_129 : zD cX12_loads 129 130 (.iaload) 1 := by decide +kernel
theorem kX12_loads_130 : zD cX12_loads 130 131 (.iload_n 3) 1 := by decide +kernel
theorem kX12_loads_131 : zD cX12_loads 131 132 (.iconst 2) 1 := by decide +kernel
theorem kX12_loads_132 : zD cX12_loads 132 133 (.idiv) 1 := by decide +kernel
theorem kX12_loads_133 : zD cX12_loads 133 134 (.iadd) 1 := by decide +kernel
theorem kX12_loads_134 : zD cX12_loads 134 135 (.iastore) 1 := by decide +kernel
theorem kX12_loads_135 : zD cX12_loads 135 136 (.aload_n 0) 1 := by decide +kernel
theorem kX12_loads_136 : zD cX12_loads 136 139 (.getfield 19) 3 := by decide +kernel
theorem kX12_loads_139 : zD cX12_loads 139 141 (.iload 4) 2 := by decide +kernel
theorem kX12_loads_141 : zD cX12_loads 141 142 (.iconst 1) 1 := by decide +kernel
theorem kX12_loads_142 : zD cX12_loads 142 143 (.iadd) 1 := by decide +kernel
theorem kX12_loads_143 : zD cX12_loads 143 144 (.dup2) 1 := by decide +kernel
theorem kX12_loads_144 : zD cX12_loads 144 145 (.iaload) 1 := by decide +kernel
theorem kX12_loads_145 : zD cX12_loads 145 146 (.iload_n 3) 1 := by decide +kernel
theorem kX12_loads_146 : zD cX12_loads 146 147 (.iload_n 3) 1 := by decide +kernel
theorem kX12_loads_147 : zD cX12_loads 147 148 (.iconst 2) 1 := by decide +kernel
theorem kX12_loads_148 : zD cX12_loads 148 149 (.idiv) 1 := by decide +kernel
theorem kX12_loads_149 : zD cX12_loads 149 150 (.isub) 1 := by decide +kernel
theorem kX12_loads_150 : zD cX12_loads 150 151 (.iadd) 1 := by decide +kernel
theorem kX12_loads_151 : zD cX12_loads 151 152 (.iastore) 1 := by decide +kernel
theorem kX12_loads_152 : zB cX12_loads 152 155 222 (.goto 70) 70 := by decide +kernel
theorem kX12_loads_155 : zD cX12_loads 155 156 (.aload_n 0) 1 := by decide +kernel
theorem kX12_loads_156 : zD cX12_loads 156 157 (.iload_n 2) 1 := by decide +kernel
theorem kX12_loads_157 : zD cX12_loads 157 160 (.invokevirtual 65) 3 := by decide +kernel
theorem kX12_loads_160 : zD cX12_loads 160 162 (.bipush 6) 2 := by decide +kernel
theorem kX12_loads_162 : zB cX12_loads 162 165 190 (.if_icmp .ne 28) 28 := by decide +kernel
theorem kX12_loads_165 : zD cX12_loads 165 166 (.aload_n 0) 1 := by decide +kernel
theorem kX12_loads_166 : zD cX12_loads 166 167 (.iload_n 1) 1 := by decide +kernel
theorem kX12_loads_167 : zD cX12_loads 167 168 (.iload_n 2) 1 := by decide +kernel
theorem kX12_loads_168 : zD cX12_loads 168 171 (.invokevirtual 78) 3 := by decide +kernel
theorem kX12_loads_171 : zB cX12_loads 171 174 190 (.ifCond .eq 19) 19 := by decide +kernel
theorem kX12_loads_174 : zD cX12_loads 174 175 (.aload_n 0) 1 := by decide +kernel
theorem kX12_loads_175 : zD cX12_loads 175 178 (.getfield 19) 3 := by decide +kernel
theorem kX12_loads_178 : zD cX12_loads 178 180 (.iload 4) 2 := by decide +kernel
theorem kX12_loads_180 : zD cX12_loads 180 181 (.iconst 1) 1 := by decide +kernel
theorem kX12_loads_181 : zD cX12_loads 181 182 (.isub) 1 := by decide +kernel
theorem kX12_loads_182 : zD cX12_loads 182 183 (.dup2) 1 := by decide +kernel
theorem kX12_loads_183 : zD cX12_loads 183 184 (.iaload) 1 := by decide +kernel
theorem kX12_loads_184 : zD cX12_loads 184 185 (.iload_n 3) 1 := by decide +kernel
theorem kX12_loads_185 : zD cX12_loads 185 186 (.iadd) 1 := by decide +kernel
theorem kX12_loads_186 : zD cX12_loads 186 187 (.iastore) 1 := by decide +kernel
theorem kX12_loads_187 : zB cX12_loads 187 190 222 (.goto 35) 35 := by decide +kernel
theorem kX12_loads_190 : zD cX12_loads 190 191 (.aload_n 0) 1 := by decide +kernel
theorem kX12_loads_191 : zD cX12_loads 191 192 (.iload_n 2) 1 := by decide +kernel
theorem kX12_loads_192 : zD cX12_loads 192 195 (.invokevirtual 65) 3 := by decide +kernel
theorem kX12_loads_195 : zD cX12_loads 195 197 (.bipush 6) 2 := by decide +kernel
theorem kX12_loads_197 : zB cX12_loads 197 200 222 (.if_icmp .ne 25) 25 := by decide +kernel
theorem kX12_loads_200 : zD cX12_loads 200 201 (.aload_n 0) 1 := by decide +kernel
theorem kX12_loads_201 : zD cX12_loads 201 202 (.iload_n 1) 1 := by decide +kernel
theorem kX12_loads_202 : zD cX12_loads 202 203 (.iload_n 2) 1 := by decide +kernel
theorem kX12_loads_203 : zD cX12_loads 203 206 (.invokevirtual 81) 3 := by decide +kernel
theorem kX12_loads_206 : zB cX12_loads 206 209 222 (.ifCond .eq 16) 16 := by decide +kernel
theorem kX12_loads_209 : zD cX12_loads 209 210 (.aload_n 0) 1 := by decide +kernel
theorem kX12_loads_210 : zD cX12_loads 210 213 (.getfield 19) 3 := by decide +kernel
theorem kX12_loads_213 : zD cX12_loads 213 215 (.iload 4) 2 := by decide +kernel
theorem kX12_loads_215 : zD cX12_loads 215 216 (.iconst 1) 1 := by decide +kernel
theorem kX12_loads_216 : zD cX12_loads 216 217 (.iadd) 1 := by decide +kernel
theorem kX12_loads_217 : zD cX12_loads 217 218 (.dup2) 1 := by decide +kernel
theorem kX12_loads_218 : zD cX12_loads 218 219 (.iaload) 1 := by decide +kernel
theorem kX12_loads_219 : zD cX12_loads 219 220 (.iload_n 3) 1 := by decide +kernel
theorem kX12_loads_220 : zD cX12_loads 220 221 (.iadd) 1 := by decide +kernel
theorem kX12_loads_221 : zD cX12_loads 221 222 (.iastore) 1 := by decide +kernel
theorem kX12_loads_222 : zD cX12_loads 222 225 (.iinc 2 (-1)) 3 := by decide +kernel
theorem kX12_loads_225 : zB cX12_loads 225 228 24 (.goto (-201)) (-201) := by decide +kernel
theorem kX12_loads_228 : zD cX12_loads 228 229 (.return_) 1 := by decide +kernel
set_option maxRecDepth 10000 in
theorem wX12_loads_0 {G : ZG} {d : Nat} {h : ZH} {Q : Option ZV → ZH → Prop} {x1 : Int32} 
  (H : zT G (d + 4) mX12_loads 2 [zr 5 0, zi x1, zi 0, zu, zu] [] h Q) :
  zT G (d + 4) mX12_loads 0 [zr 5 0, zi x1, zu, zu, zu] [] h Q := by
  refine zt_iconst (v := 0) kX12_loads_0 rfl ?_
  refine zt_istore_n (L' := [zr 5 0, zi x1, zi 0, zu, zu]) kX12_loads_1 (by decide) rfl ?_
  exact H

set_option maxRecDepth 10000 in
theorem wX12_loads_2 {G : ZG} {d : Nat} {h : ZH} {Q : Option ZV → ZH → Prop} {x1 : Int32} {x2 : Int32} 
  (H : (12 ≤ x2 → zT G (d + 4) mX12_loads 24 [zr 5 0, zi x1, zi 11, zu, zu] [] h Q) ∧ (¬ 12 ≤ x2 → vp_in x2 12 ∧ (∀ h1 : ZH, h1 = zs1 h 33 0 x2.toNatClampNeg 0 → zT G (d + 4) mX12_loads 2 [zr 5 0, zi x1, zi (x2 + 1), zu, zu] [] h1 Q))) :
  zT G (d + 4) mX12_loads 2 [zr 5 0, zi x1, zi x2, zu, zu] [] h Q := by
  refine zt_iload_n kX12_loads_2 rfl ?_
  refine zt_bipush (v := 12) kX12_loads_3 rfl ?_
  refine zt_icmp_ge kX12_loads_5 (fun c => ?_) (fun c => ?_)
  · replace H := H.1 c
    refine zt_bipush (v := 11) kX12_loads_21 rfl ?_
    refine zt_istore_n (L' := [zr 5 0, zi x1, zi 11, zu, zu]) kX12_loads_23 (by decide) rfl ?_
    exact H
  · replace H := H.2 c
    refine zt_aload_n kX12_loads_8 rfl ?_
    refine zt_get (v := zr 33 0) kX12_loads_9 fRX12_19 rfl (by decide) rfl ?_
    refine zt_iload_n kX12_loads_12 rfl ?_
    refine zt_iconst (v := 0) kX12_loads_13 rfl ?_
    obtain ⟨hv, H⟩ := H
    refine zt_iast kX12_loads_14 rfl (by decide) hv ?_
    refine zt_heap (fun h1 eh1 => ?_)
    replace H := H h1 eh1
    refine zt_iinc (v := (x2 + 1)) (L' := [zr 5 0, zi x1, zi (x2 + 1), zu, zu]) kX12_loads_15 rfl rfl (by decide) rfl ?_
    refine zt_goto kX12_loads_18 ?_
    exact H

set_option maxRecDepth 10000 in
theorem wX12_loads_24 {G : ZG} {d : Nat} {h : ZH} {Q : Option ZV → ZH → Prop} {x1 : Int32} {x2 : Int32} 
  (H : (x2 < 4 → Q none h) ∧ (¬ x2 < 4 → (¬ (hasI x1 x2) → zT G (d + 4) mX12_loads 24 [zr 5 0, zi x1, zi (x2 + (-1)), zu, zu] [] h Q) ∧ ((hasI x1 x2) → (¬ (hasI (h.1 30 0 1) x2) → vp_in x2 12 ∧ (vp_in x2 12 ∧ ∀ y1 : Int32, y1 = ((wgtI (kindI h x2) (figI h x2)) + (h.1 33 0 x2.toNatClampNeg)) → (¬ (hasI x1 (x2 - 4)) → vp_in x2 12 ∧ ((¬ (archK (kindI h x2)) → vp_in x2 12 ∧ ((¬ (kindI h x2) = 6 → vp_in x2 12 ∧ ((¬ (kindI h x2) = 6 → zT G (d + 4) mX12_loads 24 [zr 5 0, zi x1, zi (x2 + (-1)), zu, zu] [] h Q) ∧ ((kindI h x2) = 6 → (¬ (rightI x1 x2) → zT G (d + 4) mX12_loads 24 [zr 5 0, zi x1, zi (x2 + (-1)), zu, zu] [] h Q) ∧ ((rightI x1 x2) → vp_in ((x2 - 4) + 1) 12 ∧ vp_in ((x2 - 4) + 1) 12 ∧ (∀ h2 : ZH, h2 = zs1 h 33 0 ((x2 - 4) + 1).toNatClampNeg ((h.1 33 0 ((x2 - 4) + 1).toNatClampNeg) + y1) → zT G (d + 4) mX12_loads 24 [zr 5 0, zi x1, zi (x2 + (-1)), zu, zu] [] h2 Q))))) ∧ ((kindI h x2) = 6 → (¬ (leftI x1 x2) → vp_in x2 12 ∧ ((¬ (kindI h x2) = 6 → zT G (d + 4) mX12_loads 24 [zr 5 0, zi x1, zi (x2 + (-1)), zu, zu] [] h Q) ∧ ((kindI h x2) = 6 → (¬ (rightI x1 x2) → zT G (d + 4) mX12_loads 24 [zr 5 0, zi x1, zi (x2 + (-1)), zu, zu] [] h Q) ∧ ((rightI x1 x2) → vp_in ((x2 - 4) + 1) 12 ∧ vp_in ((x2 - 4) + 1) 12 ∧ (∀ h3 : ZH, h3 = zs1 h 33 0 ((x2 - 4) + 1).toNatClampNeg ((h.1 33 0 ((x2 - 4) + 1).toNatClampNeg) + y1) → zT G (d + 4) mX12_loads 24 [zr 5 0, zi x1, zi (x2 + (-1)), zu, zu] [] h3 Q))))) ∧ ((leftI x1 x2) → vp_in ((x2 - 4) - 1) 12 ∧ vp_in ((x2 - 4) - 1) 12 ∧ (∀ h4 : ZH, h4 = zs1 h 33 0 ((x2 - 4) - 1).toNatClampNeg ((h.1 33 0 ((x2 - 4) - 1).toNatClampNeg) + y1) → zT G (d + 4) mX12_loads 24 [zr 5 0, zi x1, zi (x2 + (-1)), zu, zu] [] h4 Q))))) ∧ ((archK (kindI h x2)) → (¬ (leftI x1 x2) → vp_in x2 12 ∧ ((¬ (kindI h x2) = 6 → vp_in x2 12 ∧ ((¬ (kindI h x2) = 6 → zT G (d + 4) mX12_loads 24 [zr 5 0, zi x1, zi (x2 + (-1)), zu, zu] [] h Q) ∧ ((kindI h x2) = 6 → (¬ (rightI x1 x2) → zT G (d + 4) mX12_loads 24 [zr 5 0, zi x1, zi (x2 + (-1)), zu, zu] [] h Q) ∧ ((rightI x1 x2) → vp_in ((x2 - 4) + 1) 12 ∧ vp_in ((x2 - 4) + 1) 12 ∧ (∀ h5 : ZH, h5 = zs1 h 33 0 ((x2 - 4) + 1).toNatClampNeg ((h.1 33 0 ((x2 - 4) + 1).toNatClampNeg) + y1) → zT G (d + 4) mX12_loads 24 [zr 5 0, zi x1, zi (x2 + (-1)), zu, zu] [] h5 Q))))) ∧ ((kindI h x2) = 6 → (¬ (leftI x1 x2) → vp_in x2 12 ∧ ((¬ (kindI h x2) = 6 → zT G (d + 4) mX12_loads 24 [zr 5 0, zi x1, zi (x2 + (-1)), zu, zu] [] h Q) ∧ ((kindI h x2) = 6 → (¬ (rightI x1 x2) → zT G (d + 4) mX12_loads 24 [zr 5 0, zi x1, zi (x2 + (-1)), zu, zu] [] h Q) ∧ ((rightI x1 x2) → vp_in ((x2 - 4) + 1) 12 ∧ vp_in ((x2 - 4) + 1) 12 ∧ (∀ h6 : ZH, h6 = zs1 h 33 0 ((x2 - 4) + 1).toNatClampNeg ((h.1 33 0 ((x2 - 4) + 1).toNatClampNeg) + y1) → zT G (d + 4) mX12_loads 24 [zr 5 0, zi x1, zi (x2 + (-1)), zu, zu] [] h6 Q))))) ∧ ((leftI x1 x2) → vp_in ((x2 - 4) - 1) 12 ∧ vp_in ((x2 - 4) - 1) 12 ∧ (∀ h7 : ZH, h7 = zs1 h 33 0 ((x2 - 4) - 1).toNatClampNeg ((h.1 33 0 ((x2 - 4) - 1).toNatClampNeg) + y1) → zT G (d + 4) mX12_loads 24 [zr 5 0, zi x1, zi (x2 + (-1)), zu, zu] [] h7 Q))))) ∧ ((leftI x1 x2) → (¬ (rightI x1 x2) → vp_in x2 12 ∧ ((¬ (kindI h x2) = 6 → vp_in x2 12 ∧ ((¬ (kindI h x2) = 6 → zT G (d + 4) mX12_loads 24 [zr 5 0, zi x1, zi (x2 + (-1)), zu, zu] [] h Q) ∧ ((kindI h x2) = 6 → (¬ (rightI x1 x2) → zT G (d + 4) mX12_loads 24 [zr 5 0, zi x1, zi (x2 + (-1)), zu, zu] [] h Q) ∧ ((rightI x1 x2) → vp_in ((x2 - 4) + 1) 12 ∧ vp_in ((x2 - 4) + 1) 12 ∧ (∀ h8 : ZH, h8 = zs1 h 33 0 ((x2 - 4) + 1).toNatClampNeg ((h.1 33 0 ((x2 - 4) + 1).toNatClampNeg) + y1) → zT G (d + 4) mX12_loads 24 [zr 5 0, zi x1, zi (x2 + (-1)), zu, zu] [] h8 Q))))) ∧ ((kindI h x2) = 6 → (¬ (leftI x1 x2) → vp_in x2 12 ∧ ((¬ (kindI h x2) = 6 → zT G (d + 4) mX12_loads 24 [zr 5 0, zi x1, zi (x2 + (-1)), zu, zu] [] h Q) ∧ ((kindI h x2) = 6 → (¬ (rightI x1 x2) → zT G (d + 4) mX12_loads 24 [zr 5 0, zi x1, zi (x2 + (-1)), zu, zu] [] h Q) ∧ ((rightI x1 x2) → vp_in ((x2 - 4) + 1) 12 ∧ vp_in ((x2 - 4) + 1) 12 ∧ (∀ h9 : ZH, h9 = zs1 h 33 0 ((x2 - 4) + 1).toNatClampNeg ((h.1 33 0 ((x2 - 4) + 1).toNatClampNeg) + y1) → zT G (d + 4) mX12_loads 24 [zr 5 0, zi x1, zi (x2 + (-1)), zu, zu] [] h9 Q))))) ∧ ((leftI x1 x2) → vp_in ((x2 - 4) - 1) 12 ∧ vp_in ((x2 - 4) - 1) 12 ∧ (∀ h10 : ZH, h10 = zs1 h 33 0 ((x2 - 4) - 1).toNatClampNeg ((h.1 33 0 ((x2 - 4) - 1).toNatClampNeg) + y1) → zT G (d + 4) mX12_loads 24 [zr 5 0, zi x1, zi (x2 + (-1)), zu, zu] [] h10 Q))))) ∧ ((rightI x1 x2) → vp_in ((x2 - 4) - 1) 12 ∧ vp_in ((x2 - 4) - 1) 12 ∧ (∀ h11 : ZH, h11 = zs1 h 33 0 ((x2 - 4) - 1).toNatClampNeg ((h.1 33 0 ((x2 - 4) - 1).toNatClampNeg) + (y1 / 2)) → vp_in ((x2 - 4) + 1) 12 ∧ vp_in ((x2 - 4) + 1) 12 ∧ (∀ h12 : ZH, h12 = zs1 h11 33 0 ((x2 - 4) + 1).toNatClampNeg ((h11.1 33 0 ((x2 - 4) + 1).toNatClampNeg) + (y1 - (y1 / 2))) → zT G (d + 4) mX12_loads 24 [zr 5 0, zi x1, zi (x2 + (-1)), zu, zu] [] h12 Q))))))) ∧ ((hasI x1 (x2 - 4)) → vp_in (x2 - 4) 12 ∧ vp_in (x2 - 4) 12 ∧ (∀ h13 : ZH, h13 = zs1 h 33 0 (x2 - 4).toNatClampNeg ((h.1 33 0 (x2 - 4).toNatClampNeg) + y1) → zT G (d + 4) mX12_loads 24 [zr 5 0, zi x1, zi (x2 + (-1)), zu, zu] [] h13 Q)))) ∧ ((hasI (h.1 30 0 1) x2) → zT G (d + 4) mX12_loads 24 [zr 5 0, zi x1, zi (x2 + (-1)), zu, zu] [] h Q)))) :
  zT G (d + 4) mX12_loads 24 [zr 5 0, zi x1, zi x2, zu, zu] [] h Q := by
  refine zt_iload_n kX12_loads_24 rfl ?_
  refine zt_iconst (v := 4) kX12_loads_25 rfl ?_
  refine zt_icmp_lt kX12_loads_26 (fun c => ?_) (fun c => ?_)
  · replace H := H.1 c
    exact zt_vret kX12_loads_228 rfl H
  · replace H := H.2 c
    refine zt_iload_n kX12_loads_29 rfl ?_
    refine zt_iload_n kX12_loads_30 rfl ?_
    refine zt_cS (as := [zi x1, zi x2]) kX12_loads_31 sRX12_57 rfl (by simp) rfl (sX12_has _  ) (fun r h0 hq => ?_)
    obtain ⟨rfl, hh⟩ := hq
    replace hh := hh.symm
    subst hh
    refine zt_ifb_eq kX12_loads_34 (fun c => ?_) (fun c => ?_)
    · replace H := H.1 c
      refine zt_iinc (v := (x2 + (-1))) (L' := [zr 5 0, zi x1, zi (x2 + (-1)), zu, zu]) kX12_loads_222 rfl rfl (by decide) rfl ?_
      refine zt_goto kX12_loads_225 ?_
      exact H
    · replace H := H.2 c
      refine zt_aload_n kX12_loads_37 rfl ?_
      refine zt_get (v := zr 30 0) kX12_loads_38 fRX12_9 rfl (by decide) rfl ?_
      refine zt_iconst (v := 1) kX12_loads_41 rfl ?_
      refine zt_ialdc 1 rfl kX12_loads_42 rfl (by decide) (zvp_dec (by decide)) ?_
      refine zt_iload_n kX12_loads_43 rfl ?_
      refine zt_cS (as := [zi (h.1 30 0 1), zi x2]) kX12_loads_44 sRX12_57 rfl (by simp) rfl (sX12_has _  ) (fun r h0 hq => ?_)
      obtain ⟨rfl, hh⟩ := hq
      replace hh := hh.symm
      subst hh
      refine zt_ifb_eq kX12_loads_47 (fun c => ?_) (fun c => ?_)
      · replace H := H.1 c
        refine zt_aload_n kX12_loads_53 rfl ?_
        refine zt_iload_n kX12_loads_54 rfl ?_
        obtain ⟨pp0, H⟩ := H
        refine zt_cV (as := [zi x2]) kX12_loads_55 sRX12_87 rfl (by decide) rfl (by simp) rfl (sX12_weight _  pp0) (fun r h0 hq => ?_)
        obtain ⟨rfl, hh⟩ := hq
        replace hh := hh.symm
        subst hh
        refine zt_aload_n kX12_loads_58 rfl ?_
        refine zt_get (v := zr 33 0) kX12_loads_59 fRX12_19 rfl (by decide) rfl ?_
        refine zt_iload_n kX12_loads_62 rfl ?_
        obtain ⟨hv, H⟩ := H
        refine zt_iald kX12_loads_63 rfl (by decide) hv ?_
        refine zt_iadd kX12_loads_64 ?_
        refine zt_topi (fun y1 ey1 => ?_)
        replace H := H y1 ey1
        refine zt_istore_n (L' := [zr 5 0, zi x1, zi x2, zi y1, zu]) kX12_loads_65 (by decide) rfl ?_
        refine zt_iload_n kX12_loads_66 rfl ?_
        refine zt_iconst (v := 4) kX12_loads_67 rfl ?_
        refine zt_isub kX12_loads_68 ?_
        refine zt_istore (L' := [zr 5 0, zi x1, zi x2, zi y1, zi (x2 - 4)]) kX12_loads_69 (by decide) rfl ?_
        refine zt_iload_n kX12_loads_71 rfl ?_
        refine zt_iload kX12_loads_72 rfl ?_
        refine zt_cS (as := [zi x1, zi (x2 - 4)]) kX12_loads_74 sRX12_57 rfl (by simp) rfl (sX12_has _  ) (fun r h0 hq => ?_)
        obtain ⟨rfl, hh⟩ := hq
        replace hh := hh.symm
        subst hh
        refine zt_ifb_eq kX12_loads_77 (fun c => ?_) (fun c => ?_)
        · replace H := H.1 c
          refine zt_aload_n kX12_loads_94 rfl ?_
          refine zt_iload_n kX12_loads_95 rfl ?_
          obtain ⟨pp0, H⟩ := H
          refine zt_cV (as := [zi x2]) kX12_loads_96 sRX12_75 rfl (by decide) rfl (by simp) rfl (sX12_isArch _  pp0) (fun r h0 hq => ?_)
          obtain ⟨rfl, hh⟩ := hq
          replace hh := hh.symm
          subst hh
          refine zt_ifb_eq kX12_loads_99 (fun c => ?_) (fun c => ?_)
          · replace H := H.1 c
            refine zt_aload_n kX12_loads_155 rfl ?_
            refine zt_iload_n kX12_loads_156 rfl ?_
            obtain ⟨pp0, H⟩ := H
            refine zt_cV (as := [zi x2]) kX12_loads_157 sRX12_65 rfl (by decide) rfl (by simp) rfl (sX12_kind _  pp0) (fun r h0 hq => ?_)
            obtain ⟨rfl, hh⟩ := hq
            replace hh := hh.symm
            subst hh
            refine zt_bipush (v := 6) kX12_loads_160 rfl ?_
            refine zt_icmp_ne kX12_loads_162 (fun c => ?_) (fun c => ?_)
            · replace H := H.1 c
              refine zt_aload_n kX12_loads_190 rfl ?_
              refine zt_iload_n kX12_loads_191 rfl ?_
              obtain ⟨pp0, H⟩ := H
              refine zt_cV (as := [zi x2]) kX12_loads_192 sRX12_65 rfl (by decide) rfl (by simp) rfl (sX12_kind _  pp0) (fun r h0 hq => ?_)
              obtain ⟨rfl, hh⟩ := hq
              replace hh := hh.symm
              subst hh
              refine zt_bipush (v := 6) kX12_loads_195 rfl ?_
              refine zt_icmp_ne kX12_loads_197 (fun c => ?_) (fun c => ?_)
              · replace H := H.1 c
                refine zt_iinc (v := (x2 + (-1))) (L' := [zr 5 0, zi x1, zi (x2 + (-1)), zi y1, zi (x2 - 4)]) kX12_loads_222 rfl rfl (by decide) rfl ?_
                refine zt_goto kX12_loads_225 ?_
                exact zt_sub [zr 5 0, zi x1, zi (x2 + (-1)), zu, zu] ⟨rfl, ⟨rfl, ⟨rfl, trivial⟩⟩⟩ H
              · replace H := H.2 c
                refine zt_aload_n kX12_loads_200 rfl ?_
                refine zt_iload_n kX12_loads_201 rfl ?_
                refine zt_iload_n kX12_loads_202 rfl ?_
                refine zt_cV (as := [zi x1, zi x2]) kX12_loads_203 sRX12_81 rfl (by decide) rfl (by simp) rfl (sX12_isRight _  ) (fun r h0 hq => ?_)
                obtain ⟨rfl, hh⟩ := hq
                replace hh := hh.symm
                subst hh
                refine zt_ifb_eq kX12_loads_206 (fun c => ?_) (fun c => ?_)
                · replace H := H.1 c
                  refine zt_iinc (v := (x2 + (-1))) (L' := [zr 5 0, zi x1, zi (x2 + (-1)), zi y1, zi (x2 - 4)]) kX12_loads_222 rfl rfl (by decide) rfl ?_
                  refine zt_goto kX12_loads_225 ?_
                  exact zt_sub [zr 5 0, zi x1, zi (x2 + (-1)), zu, zu] ⟨rfl, ⟨rfl, ⟨rfl, trivial⟩⟩⟩ H
                · replace H := H.2 c
                  refine zt_aload_n kX12_loads_209 rfl ?_
                  refine zt_get (v := zr 33 0) kX12_loads_210 fRX12_19 rfl (by decide) rfl ?_
                  refine zt_iload kX12_loads_213 rfl ?_
                  refine zt_iconst (v := 1) kX12_loads_215 rfl ?_
                  refine zt_iadd kX12_loads_216 ?_
                  refine zt_dup2 kX12_loads_217 (by intro x q; cases q) (by intro x q; cases q) ?_
                  obtain ⟨hv, H⟩ := H
                  refine zt_iald kX12_loads_218 rfl (by decide) hv ?_
                  refine zt_iload_n kX12_loads_219 rfl ?_
                  refine zt_iadd kX12_loads_220 ?_
                  obtain ⟨hv, H⟩ := H
                  refine zt_iast kX12_loads_221 rfl (by decide) hv ?_
                  refine zt_heap (fun h2 eh2 => ?_)
                  replace H := H h2 eh2
                  refine zt_iinc (v := (x2 + (-1))) (L' := [zr 5 0, zi x1, zi (x2 + (-1)), zi y1, zi (x2 - 4)]) kX12_loads_222 rfl rfl (by decide) rfl ?_
                  refine zt_goto kX12_loads_225 ?_
                  exact zt_sub [zr 5 0, zi x1, zi (x2 + (-1)), zu, zu] ⟨rfl, ⟨rfl, ⟨rfl, trivial⟩⟩⟩ H
            · replace H := H.2 c
              refine zt_aload_n kX12_loads_165 rfl ?_
              refine zt_iload_n kX12_loads_166 rfl ?_
              refine zt_iload_n kX12_loads_167 rfl ?_
              refine zt_cV (as := [zi x1, zi x2]) kX12_loads_168 sRX12_78 rfl (by decide) rfl (by simp) rfl (sX12_isLeft _  ) (fun r h0 hq => ?_)
              obtain ⟨rfl, hh⟩ := hq
              replace hh := hh.symm
              subst hh
              refine zt_ifb_eq kX12_loads_171 (fun c => ?_) (fun c => ?_)
              · replace H := H.1 c
                refine zt_aload_n kX12_loads_190 rfl ?_
                refine zt_iload_n kX12_loads_191 rfl ?_
                obtain ⟨pp0, H⟩ := H
                refine zt_cV (as := [zi x2]) kX12_loads_192 sRX12_65 rfl (by decide) rfl (by simp) rfl (sX12_kind _  pp0) (fun r h0 hq => ?_)
                obtain ⟨rfl, hh⟩ := hq
                replace hh := hh.symm
                subst hh
                refine zt_bipush (v := 6) kX12_loads_195 rfl ?_
                refine zt_icmp_ne kX12_loads_197 (fun c => ?_) (fun c => ?_)
                · replace H := H.1 c
                  refine zt_iinc (v := (x2 + (-1))) (L' := [zr 5 0, zi x1, zi (x2 + (-1)), zi y1, zi (x2 - 4)]) kX12_loads_222 rfl rfl (by decide) rfl ?_
                  refine zt_goto kX12_loads_225 ?_
                  exact zt_sub [zr 5 0, zi x1, zi (x2 + (-1)), zu, zu] ⟨rfl, ⟨rfl, ⟨rfl, trivial⟩⟩⟩ H
                · replace H := H.2 c
                  refine zt_aload_n kX12_loads_200 rfl ?_
                  refine zt_iload_n kX12_loads_201 rfl ?_
                  refine zt_iload_n kX12_loads_202 rfl ?_
                  refine zt_cV (as := [zi x1, zi x2]) kX12_loads_203 sRX12_81 rfl (by decide) rfl (by simp) rfl (sX12_isRight _  ) (fun r h0 hq => ?_)
                  obtain ⟨rfl, hh⟩ := hq
                  replace hh := hh.symm
                  subst hh
                  refine zt_ifb_eq kX12_loads_206 (fun c => ?_) (fun c => ?_)
                  · replace H := H.1 c
                    refine zt_iinc (v := (x2 + (-1))) (L' := [zr 5 0, zi x1, zi (x2 + (-1)), zi y1, zi (x2 - 4)]) kX12_loads_222 rfl rfl (by decide) rfl ?_
                    refine zt_goto kX12_loads_225 ?_
                    exact zt_sub [zr 5 0, zi x1, zi (x2 + (-1)), zu, zu] ⟨rfl, ⟨rfl, ⟨rfl, trivial⟩⟩⟩ H
                  · replace H := H.2 c
                    refine zt_aload_n kX12_loads_209 rfl ?_
                    refine zt_get (v := zr 33 0) kX12_loads_210 fRX12_19 rfl (by decide) rfl ?_
                    refine zt_iload kX12_loads_213 rfl ?_
                    refine zt_iconst (v := 1) kX12_loads_215 rfl ?_
                    refine zt_iadd kX12_loads_216 ?_
                    refine zt_dup2 kX12_loads_217 (by intro x q; cases q) (by intro x q; cases q) ?_
                    obtain ⟨hv, H⟩ := H
                    refine zt_iald kX12_loads_218 rfl (by decide) hv ?_
                    refine zt_iload_n kX12_loads_219 rfl ?_
                    refine zt_iadd kX12_loads_220 ?_
                    obtain ⟨hv, H⟩ := H
                    refine zt_iast kX12_loads_221 rfl (by decide) hv ?_
                    refine zt_heap (fun h3 eh3 => ?_)
                    replace H := H h3 eh3
                    refine zt_iinc (v := (x2 + (-1))) (L' := [zr 5 0, zi x1, zi (x2 + (-1)), zi y1, zi (x2 - 4)]) kX12_loads_222 rfl rfl (by decide) rfl ?_
                    refine zt_goto kX12_loads_225 ?_
                    exact zt_sub [zr 5 0, zi x1, zi (x2 + (-1)), zu, zu] ⟨rfl, ⟨rfl, ⟨rfl, trivial⟩⟩⟩ H
              · replace H := H.2 c
                refine zt_aload_n kX12_loads_174 rfl ?_
                refine zt_get (v := zr 33 0) kX12_loads_175 fRX12_19 rfl (by decide) rfl ?_
                refine zt_iload kX12_loads_178 rfl ?_
                refine zt_iconst (v := 1) kX12_loads_180 rfl ?_
                refine zt_isub kX12_loads_181 ?_
                refine zt_dup2 kX12_loads_182 (by intro x q; cases q) (by intro x q; cases q) ?_
                obtain ⟨hv, H⟩ := H
                refine zt_iald kX12_loads_183 rfl (by decide) hv ?_
                refine zt_iload_n kX12_loads_184 rfl ?_
                refine zt_iadd kX12_loads_185 ?_
                obtain ⟨hv, H⟩ := H
                refine zt_iast kX12_loads_186 rfl (by decide) hv ?_
                refine zt_heap (fun h4 eh4 => ?_)
                replace H := H h4 eh4
                refine zt_goto kX12_loads_187 ?_
                refine zt_iinc (v := (x2 + (-1))) (L' := [zr 5 0, zi x1, zi (x2 + (-1)), zi y1, zi (x2 - 4)]) kX12_loads_222 rfl rfl (by decide) rfl ?_
                refine zt_goto kX12_loads_225 ?_
                exact zt_sub [zr 5 0, zi x1, zi (x2 + (-1)), zu, zu] ⟨rfl, ⟨rfl, ⟨rfl, trivial⟩⟩⟩ H
          · replace H := H.2 c
            refine zt_aload_n kX12_loads_102 rfl ?_
            refine zt_iload_n kX12_loads_103 rfl ?_
            refine zt_iload_n kX12_loads_104 rfl ?_
            refine zt_cV (as := [zi x1, zi x2]) kX12_loads_105 sRX12_78 rfl (by decide) rfl (by simp) rfl (sX12_isLeft _  ) (fun r h0 hq => ?_)
            obtain ⟨rfl, hh⟩ := hq
            replace hh := hh.symm
            subst hh
            refine zt_ifb_eq kX12_loads_108 (fun c => ?_) (fun c => ?_)
            · replace H := H.1 c
              refine zt_aload_n kX12_loads_155 rfl ?_
              refine zt_iload_n kX12_loads_156 rfl ?_
              obtain ⟨pp0, H⟩ := H
              refine zt_cV (as := [zi x2]) kX12_loads_157 sRX12_65 rfl (by decide) rfl (by simp) rfl (sX12_kind _  pp0) (fun r h0 hq => ?_)
              obtain ⟨rfl, hh⟩ := hq
              replace hh := hh.symm
              subst hh
              refine zt_bipush (v := 6) kX12_loads_160 rfl ?_
              refine zt_icmp_ne kX12_loads_162 (fun c => ?_) (fun c => ?_)
              · replace H := H.1 c
                refine zt_aload_n kX12_loads_190 rfl ?_
                refine zt_iload_n kX12_loads_191 rfl ?_
                obtain ⟨pp0, H⟩ := H
                refine zt_cV (as := [zi x2]) kX12_loads_192 sRX12_65 rfl (by decide) rfl (by simp) rfl (sX12_kind _  pp0) (fun r h0 hq => ?_)
                obtain ⟨rfl, hh⟩ := hq
                replace hh := hh.symm
                subst hh
                refine zt_bipush (v := 6) kX12_loads_195 rfl ?_
                refine zt_icmp_ne kX12_loads_197 (fun c => ?_) (fun c => ?_)
                · replace H := H.1 c
                  refine zt_iinc (v := (x2 + (-1))) (L' := [zr 5 0, zi x1, zi (x2 + (-1)), zi y1, zi (x2 - 4)]) kX12_loads_222 rfl rfl (by decide) rfl ?_
                  refine zt_goto kX12_loads_225 ?_
                  exact zt_sub [zr 5 0, zi x1, zi (x2 + (-1)), zu, zu] ⟨rfl, ⟨rfl, ⟨rfl, trivial⟩⟩⟩ H
                · replace H := H.2 c
                  refine zt_aload_n kX12_loads_200 rfl ?_
                  refine zt_iload_n kX12_loads_201 rfl ?_
                  refine zt_iload_n kX12_loads_202 rfl ?_
                  refine zt_cV (as := [zi x1, zi x2]) kX12_loads_203 sRX12_81 rfl (by decide) rfl (by simp) rfl (sX12_isRight _  ) (fun r h0 hq => ?_)
                  obtain ⟨rfl, hh⟩ := hq
                  replace hh := hh.symm
                  subst hh
                  refine zt_ifb_eq kX12_loads_206 (fun c => ?_) (fun c => ?_)
                  · replace H := H.1 c
                    refine zt_iinc (v := (x2 + (-1))) (L' := [zr 5 0, zi x1, zi (x2 + (-1)), zi y1, zi (x2 - 4)]) kX12_loads_222 rfl rfl (by decide) rfl ?_
                    refine zt_goto kX12_loads_225 ?_
                    exact zt_sub [zr 5 0, zi x1, zi (x2 + (-1)), zu, zu] ⟨rfl, ⟨rfl, ⟨rfl, trivial⟩⟩⟩ H
                  · replace H := H.2 c
                    refine zt_aload_n kX12_loads_209 rfl ?_
                    refine zt_get (v := zr 33 0) kX12_loads_210 fRX12_19 rfl (by decide) rfl ?_
                    refine zt_iload kX12_loads_213 rfl ?_
                    refine zt_iconst (v := 1) kX12_loads_215 rfl ?_
                    refine zt_iadd kX12_loads_216 ?_
                    refine zt_dup2 kX12_loads_217 (by intro x q; cases q) (by intro x q; cases q) ?_
                    obtain ⟨hv, H⟩ := H
                    refine zt_iald kX12_loads_218 rfl (by decide) hv ?_
                    refine zt_iload_n kX12_loads_219 rfl ?_
                    refine zt_iadd kX12_loads_220 ?_
                    obtain ⟨hv, H⟩ := H
                    refine zt_iast kX12_loads_221 rfl (by decide) hv ?_
                    refine zt_heap (fun h5 eh5 => ?_)
                    replace H := H h5 eh5
                    refine zt_iinc (v := (x2 + (-1))) (L' := [zr 5 0, zi x1, zi (x2 + (-1)), zi y1, zi (x2 - 4)]) kX12_loads_222 rfl rfl (by decide) rfl ?_
                    refine zt_goto kX12_loads_225 ?_
                    exact zt_sub [zr 5 0, zi x1, zi (x2 + (-1)), zu, zu] ⟨rfl, ⟨rfl, ⟨rfl, trivial⟩⟩⟩ H
              · replace H := H.2 c
                refine zt_aload_n kX12_loads_165 rfl ?_
                refine zt_iload_n kX12_loads_166 rfl ?_
                refine zt_iload_n kX12_loads_167 rfl ?_
                refine zt_cV (as := [zi x1, zi x2]) kX12_loads_168 sRX12_78 rfl (by decide) rfl (by simp) rfl (sX12_isLeft _  ) (fun r h0 hq => ?_)
                obtain ⟨rfl, hh⟩ := hq
                replace hh := hh.symm
                subst hh
                refine zt_ifb_eq kX12_loads_171 (fun c => ?_) (fun c => ?_)
                · replace H := H.1 c
                  refine zt_aload_n kX12_loads_190 rfl ?_
                  refine zt_iload_n kX12_loads_191 rfl ?_
                  obtain ⟨pp0, H⟩ := H
                  refine zt_cV (as := [zi x2]) kX12_loads_192 sRX12_65 rfl (by decide) rfl (by simp) rfl (sX12_kind _  pp0) (fun r h0 hq => ?_)
                  obtain ⟨rfl, hh⟩ := hq
                  replace hh := hh.symm
                  subst hh
                  refine zt_bipush (v := 6) kX12_loads_195 rfl ?_
                  refine zt_icmp_ne kX12_loads_197 (fun c => ?_) (fun c => ?_)
                  · replace H := H.1 c
                    refine zt_iinc (v := (x2 + (-1))) (L' := [zr 5 0, zi x1, zi (x2 + (-1)), zi y1, zi (x2 - 4)]) kX12_loads_222 rfl rfl (by decide) rfl ?_
                    refine zt_goto kX12_loads_225 ?_
                    exact zt_sub [zr 5 0, zi x1, zi (x2 + (-1)), zu, zu] ⟨rfl, ⟨rfl, ⟨rfl, trivial⟩⟩⟩ H
                  · replace H := H.2 c
                    refine zt_aload_n kX12_loads_200 rfl ?_
                    refine zt_iload_n kX12_loads_201 rfl ?_
                    refine zt_iload_n kX12_loads_202 rfl ?_
                    refine zt_cV (as := [zi x1, zi x2]) kX12_loads_203 sRX12_81 rfl (by decide) rfl (by simp) rfl (sX12_isRight _  ) (fun r h0 hq => ?_)
                    obtain ⟨rfl, hh⟩ := hq
                    replace hh := hh.symm
                    subst hh
                    refine zt_ifb_eq kX12_loads_206 (fun c => ?_) (fun c => ?_)
                    · replace H := H.1 c
                      refine zt_iinc (v := (x2 + (-1))) (L' := [zr 5 0, zi x1, zi (x2 + (-1)), zi y1, zi (x2 - 4)]) kX12_loads_222 rfl rfl (by decide) rfl ?_
                      refine zt_goto kX12_loads_225 ?_
                      exact zt_sub [zr 5 0, zi x1, zi (x2 + (-1)), zu, zu] ⟨rfl, ⟨rfl, ⟨rfl, trivial⟩⟩⟩ H
                    · replace H := H.2 c
                      refine zt_aload_n kX12_loads_209 rfl ?_
                      refine zt_get (v := zr 33 0) kX12_loads_210 fRX12_19 rfl (by decide) rfl ?_
                      refine zt_iload kX12_loads_213 rfl ?_
                      refine zt_iconst (v := 1) kX12_loads_215 rfl ?_
                      refine zt_iadd kX12_loads_216 ?_
                      refine zt_dup2 kX12_loads_217 (by intro x q; cases q) (by intro x q; cases q) ?_
                      obtain ⟨hv, H⟩ := H
                      refine zt_iald kX12_loads_218 rfl (by decide) hv ?_
                      refine zt_iload_n kX12_loads_219 rfl ?_
                      refine zt_iadd kX12_loads_220 ?_
                      obtain ⟨hv, H⟩ := H
                      refine zt_iast kX12_loads_221 rfl (by decide) hv ?_
                      refine zt_heap (fun h6 eh6 => ?_)
                      replace H := H h6 eh6
                      refine zt_iinc (v := (x2 + (-1))) (L' := [zr 5 0, zi x1, zi (x2 + (-1)), zi y1, zi (x2 - 4)]) kX12_loads_222 rfl rfl (by decide) rfl ?_
                      refine zt_goto kX12_loads_225 ?_
                      exact zt_sub [zr 5 0, zi x1, zi (x2 + (-1)), zu, zu] ⟨rfl, ⟨rfl, ⟨rfl, trivial⟩⟩⟩ H
                · replace H := H.2 c
                  refine zt_aload_n kX12_loads_174 rfl ?_
                  refine zt_get (v := zr 33 0) kX12_loads_175 fRX12_19 rfl (by decide) rfl ?_
                  refine zt_iload kX12_loads_178 rfl ?_
                  refine zt_iconst (v := 1) kX12_loads_180 rfl ?_
                  refine zt_isub kX12_loads_181 ?_
                  refine zt_dup2 kX12_loads_182 (by intro x q; cases q) (by intro x q; cases q) ?_
                  obtain ⟨hv, H⟩ := H
                  refine zt_iald kX12_loads_183 rfl (by decide) hv ?_
                  refine zt_iload_n kX12_loads_184 rfl ?_
                  refine zt_iadd kX12_loads_185 ?_
                  obtain ⟨hv, H⟩ := H
                  refine zt_iast kX12_loads_186 rfl (by decide) hv ?_
                  refine zt_heap (fun h7 eh7 => ?_)
                  replace H := H h7 eh7
                  refine zt_goto kX12_loads_187 ?_
                  refine zt_iinc (v := (x2 + (-1))) (L' := [zr 5 0, zi x1, zi (x2 + (-1)), zi y1, zi (x2 - 4)]) kX12_loads_222 rfl rfl (by decide) rfl ?_
                  refine zt_goto kX12_loads_225 ?_
                  exact zt_sub [zr 5 0, zi x1, zi (x2 + (-1)), zu, zu] ⟨rfl, ⟨rfl, ⟨rfl, trivial⟩⟩⟩ H
            · replace H := H.2 c
              refine zt_aload_n kX12_loads_111 rfl ?_
              refine zt_iload_n kX12_loads_112 rfl ?_
              refine zt_iload_n kX12_loads_113 rfl ?_
              refine zt_cV (as := [zi x1, zi x2]) kX12_loads_114 sRX12_81 rfl (by decide) rfl (by simp) rfl (sX12_isRight _  ) (fun r h0 hq => ?_)
              obtain ⟨rfl, hh⟩ := hq
              replace hh := hh.symm
              subst hh
              refine zt_ifb_eq kX12_loads_117 (fun c => ?_) (fun c => ?_)
              · replace H := H.1 c
                refine zt_aload_n kX12_loads_155 rfl ?_
                refine zt_iload_n kX12_loads_156 rfl ?_
                obtain ⟨pp0, H⟩ := H
                refine zt_cV (as := [zi x2]) kX12_loads_157 sRX12_65 rfl (by decide) rfl (by simp) rfl (sX12_kind _  pp0) (fun r h0 hq => ?_)
                obtain ⟨rfl, hh⟩ := hq
                replace hh := hh.symm
                subst hh
                refine zt_bipush (v := 6) kX12_loads_160 rfl ?_
                refine zt_icmp_ne kX12_loads_162 (fun c => ?_) (fun c => ?_)
                · replace H := H.1 c
                  refine zt_aload_n kX12_loads_190 rfl ?_
                  refine zt_iload_n kX12_loads_191 rfl ?_
                  obtain ⟨pp0, H⟩ := H
                  refine zt_cV (as := [zi x2]) kX12_loads_192 sRX12_65 rfl (by decide) rfl (by simp) rfl (sX12_kind _  pp0) (fun r h0 hq => ?_)
                  obtain ⟨rfl, hh⟩ := hq
                  replace hh := hh.symm
                  subst hh
                  refine zt_bipush (v := 6) kX12_loads_195 rfl ?_
                  refine zt_icmp_ne kX12_loads_197 (fun c => ?_) (fun c => ?_)
                  · replace H := H.1 c
                    refine zt_iinc (v := (x2 + (-1))) (L' := [zr 5 0, zi x1, zi (x2 + (-1)), zi y1, zi (x2 - 4)]) kX12_loads_222 rfl rfl (by decide) rfl ?_
                    refine zt_goto kX12_loads_225 ?_
                    exact zt_sub [zr 5 0, zi x1, zi (x2 + (-1)), zu, zu] ⟨rfl, ⟨rfl, ⟨rfl, trivial⟩⟩⟩ H
                  · replace H := H.2 c
                    refine zt_aload_n kX12_loads_200 rfl ?_
                    refine zt_iload_n kX12_loads_201 rfl ?_
                    refine zt_iload_n kX12_loads_202 rfl ?_
                    refine zt_cV (as := [zi x1, zi x2]) kX12_loads_203 sRX12_81 rfl (by decide) rfl (by simp) rfl (sX12_isRight _  ) (fun r h0 hq => ?_)
                    obtain ⟨rfl, hh⟩ := hq
                    replace hh := hh.symm
                    subst hh
                    refine zt_ifb_eq kX12_loads_206 (fun c => ?_) (fun c => ?_)
                    · replace H := H.1 c
                      refine zt_iinc (v := (x2 + (-1))) (L' := [zr 5 0, zi x1, zi (x2 + (-1)), zi y1, zi (x2 - 4)]) kX12_loads_222 rfl rfl (by decide) rfl ?_
                      refine zt_goto kX12_loads_225 ?_
                      exact zt_sub [zr 5 0, zi x1, zi (x2 + (-1)), zu, zu] ⟨rfl, ⟨rfl, ⟨rfl, trivial⟩⟩⟩ H
                    · replace H := H.2 c
                      refine zt_aload_n kX12_loads_209 rfl ?_
                      refine zt_get (v := zr 33 0) kX12_loads_210 fRX12_19 rfl (by decide) rfl ?_
                      refine zt_iload kX12_loads_213 rfl ?_
                      refine zt_iconst (v := 1) kX12_loads_215 rfl ?_
                      refine zt_iadd kX12_loads_216 ?_
                      refine zt_dup2 kX12_loads_217 (by intro x q; cases q) (by intro x q; cases q) ?_
                      obtain ⟨hv, H⟩ := H
                      refine zt_iald kX12_loads_218 rfl (by decide) hv ?_
                      refine zt_iload_n kX12_loads_219 rfl ?_
                      refine zt_iadd kX12_loads_220 ?_
                      obtain ⟨hv, H⟩ := H
                      refine zt_iast kX12_loads_221 rfl (by decide) hv ?_
                      refine zt_heap (fun h8 eh8 => ?_)
                      replace H := H h8 eh8
                      refine zt_iinc (v := (x2 + (-1))) (L' := [zr 5 0, zi x1, zi (x2 + (-1)), zi y1, zi (x2 - 4)]) kX12_loads_222 rfl rfl (by decide) rfl ?_
                      refine zt_goto kX12_loads_225 ?_
                      exact zt_sub [zr 5 0, zi x1, zi (x2 + (-1)), zu, zu] ⟨rfl, ⟨rfl, ⟨rfl, trivial⟩⟩⟩ H
                · replace H := H.2 c
                  refine zt_aload_n kX12_loads_165 rfl ?_
                  refine zt_iload_n kX12_loads_166 rfl ?_
                  refine zt_iload_n kX12_loads_167 rfl ?_
                  refine zt_cV (as := [zi x1, zi x2]) kX12_loads_168 sRX12_78 rfl (by decide) rfl (by simp) rfl (sX12_isLeft _  ) (fun r h0 hq => ?_)
                  obtain ⟨rfl, hh⟩ := hq
                  replace hh := hh.symm
                  subst hh
                  refine zt_ifb_eq kX12_loads_171 (fun c => ?_) (fun c => ?_)
                  · replace H := H.1 c
                    refine zt_aload_n kX12_loads_190 rfl ?_
                    refine zt_iload_n kX12_loads_191 rfl ?_
                    obtain ⟨pp0, H⟩ := H
                    refine zt_cV (as := [zi x2]) kX12_loads_192 sRX12_65 rfl (by decide) rfl (by simp) rfl (sX12_kind _  pp0) (fun r h0 hq => ?_)
                    obtain ⟨rfl, hh⟩ := hq
                    replace hh := hh.symm
                    subst hh
                    refine zt_bipush (v := 6) kX12_loads_195 rfl ?_
                    refine zt_icmp_ne kX12_loads_197 (fun c => ?_) (fun c => ?_)
                    · replace H := H.1 c
                      refine zt_iinc (v := (x2 + (-1))) (L' := [zr 5 0, zi x1, zi (x2 + (-1)), zi y1, zi (x2 - 4)]) kX12_loads_222 rfl rfl (by decide) rfl ?_
                      refine zt_goto kX12_loads_225 ?_
                      exact zt_sub [zr 5 0, zi x1, zi (x2 + (-1)), zu, zu] ⟨rfl, ⟨rfl, ⟨rfl, trivial⟩⟩⟩ H
                    · replace H := H.2 c
                      refine zt_aload_n kX12_loads_200 rfl ?_
                      refine zt_iload_n kX12_loads_201 rfl ?_
                      refine zt_iload_n kX12_loads_202 rfl ?_
                      refine zt_cV (as := [zi x1, zi x2]) kX12_loads_203 sRX12_81 rfl (by decide) rfl (by simp) rfl (sX12_isRight _  ) (fun r h0 hq => ?_)
                      obtain ⟨rfl, hh⟩ := hq
                      replace hh := hh.symm
                      subst hh
                      refine zt_ifb_eq kX12_loads_206 (fun c => ?_) (fun c => ?_)
                      · replace H := H.1 c
                        refine zt_iinc (v := (x2 + (-1))) (L' := [zr 5 0, zi x1, zi (x2 + (-1)), zi y1, zi (x2 - 4)]) kX12_loads_222 rfl rfl (by decide) rfl ?_
                        refine zt_goto kX12_loads_225 ?_
                        exact zt_sub [zr 5 0, zi x1, zi (x2 + (-1)), zu, zu] ⟨rfl, ⟨rfl, ⟨rfl, trivial⟩⟩⟩ H
                      · replace H := H.2 c
                        refine zt_aload_n kX12_loads_209 rfl ?_
                        refine zt_get (v := zr 33 0) kX12_loads_210 fRX12_19 rfl (by decide) rfl ?_
                        refine zt_iload kX12_loads_213 rfl ?_
                        refine zt_iconst (v := 1) kX12_loads_215 rfl ?_
                        refine zt_iadd kX12_loads_216 ?_
                        refine zt_dup2 kX12_loads_217 (by intro x q; cases q) (by intro x q; cases q) ?_
                        obtain ⟨hv, H⟩ := H
                        refine zt_iald kX12_loads_218 rfl (by decide) hv ?_
                        refine zt_iload_n kX12_loads_219 rfl ?_
                        refine zt_iadd kX12_loads_220 ?_
                        obtain ⟨hv, H⟩ := H
                        refine zt_iast kX12_loads_221 rfl (by decide) hv ?_
                        refine zt_heap (fun h9 eh9 => ?_)
                        replace H := H h9 eh9
                        refine zt_iinc (v := (x2 + (-1))) (L' := [zr 5 0, zi x1, zi (x2 + (-1)), zi y1, zi (x2 - 4)]) kX12_loads_222 rfl rfl (by decide) rfl ?_
                        refine zt_goto kX12_loads_225 ?_
                        exact zt_sub [zr 5 0, zi x1, zi (x2 + (-1)), zu, zu] ⟨rfl, ⟨rfl, ⟨rfl, trivial⟩⟩⟩ H
                  · replace H := H.2 c
                    refine zt_aload_n kX12_loads_174 rfl ?_
                    refine zt_get (v := zr 33 0) kX12_loads_175 fRX12_19 rfl (by decide) rfl ?_
                    refine zt_iload kX12_loads_178 rfl ?_
                    refine zt_iconst (v := 1) kX12_loads_180 rfl ?_
                    refine zt_isub kX12_loads_181 ?_
                    refine zt_dup2 kX12_loads_182 (by intro x q; cases q) (by intro x q; cases q) ?_
                    obtain ⟨hv, H⟩ := H
                    refine zt_iald kX12_loads_183 rfl (by decide) hv ?_
                    refine zt_iload_n kX12_loads_184 rfl ?_
                    refine zt_iadd kX12_loads_185 ?_
                    obtain ⟨hv, H⟩ := H
                    refine zt_iast kX12_loads_186 rfl (by decide) hv ?_
                    refine zt_heap (fun h10 eh10 => ?_)
                    replace H := H h10 eh10
                    refine zt_goto kX12_loads_187 ?_
                    refine zt_iinc (v := (x2 + (-1))) (L' := [zr 5 0, zi x1, zi (x2 + (-1)), zi y1, zi (x2 - 4)]) kX12_loads_222 rfl rfl (by decide) rfl ?_
                    refine zt_goto kX12_loads_225 ?_
                    exact zt_sub [zr 5 0, zi x1, zi (x2 + (-1)), zu, zu] ⟨rfl, ⟨rfl, ⟨rfl, trivial⟩⟩⟩ H
              · replace H := H.2 c
                refine zt_aload_n kX12_loads_120 rfl ?_
                refine zt_get (v := zr 33 0) kX12_loads_121 fRX12_19 rfl (by decide) rfl ?_
                refine zt_iload kX12_loads_124 rfl ?_
                refine zt_iconst (v := 1) kX12_loads_126 rfl ?_
                refine zt_isub kX12_loads_127 ?_
                refine zt_dup2 kX12_loads_128 (by intro x q; cases q) (by intro x q; cases q) ?_
                obtain ⟨hv, H⟩ := H
                refine zt_iald kX12_loads_129 rfl (by decide) hv ?_
                refine zt_iload_n kX12_loads_130 rfl ?_
                refine zt_iconst (v := 2) kX12_loads_131 rfl ?_
                refine zt_idiv kX12_loads_132 (by decide) ?_
                refine zt_iadd kX12_loads_133 ?_
                obtain ⟨hv, H⟩ := H
                refine zt_iast kX12_loads_134 rfl (by decide) hv ?_
                refine zt_heap (fun h11 eh11 => ?_)
                replace H := H h11 eh11
                refine zt_aload_n kX12_loads_135 rfl ?_
                refine zt_get (v := zr 33 0) kX12_loads_136 fRX12_19 rfl (by decide) rfl ?_
                refine zt_iload kX12_loads_139 rfl ?_
                refine zt_iconst (v := 1) kX12_loads_141 rfl ?_
                refine zt_iadd kX12_loads_142 ?_
                refine zt_dup2 kX12_loads_143 (by intro x q; cases q) (by intro x q; cases q) ?_
                obtain ⟨hv, H⟩ := H
                refine zt_iald kX12_loads_144 rfl (by decide) hv ?_
                refine zt_iload_n kX12_loads_145 rfl ?_
                refine zt_iload_n kX12_loads_146 rfl ?_
                refine zt_iconst (v := 2) kX12_loads_147 rfl ?_
                refine zt_idiv kX12_loads_148 (by decide) ?_
                refine zt_isub kX12_loads_149 ?_
                refine zt_iadd kX12_loads_150 ?_
                obtain ⟨hv, H⟩ := H
                refine zt_iast kX12_loads_151 rfl (by decide) hv ?_
                refine zt_heap (fun h12 eh12 => ?_)
                replace H := H h12 eh12
                refine zt_goto kX12_loads_152 ?_
                refine zt_iinc (v := (x2 + (-1))) (L' := [zr 5 0, zi x1, zi (x2 + (-1)), zi y1, zi (x2 - 4)]) kX12_loads_222 rfl rfl (by decide) rfl ?_
                refine zt_goto kX12_loads_225 ?_
                exact zt_sub [zr 5 0, zi x1, zi (x2 + (-1)), zu, zu] ⟨rfl, ⟨rfl, ⟨rfl, trivial⟩⟩⟩ H
        · replace H := H.2 c
          refine zt_aload_n kX12_loads_80 rfl ?_
          refine zt_get (v := zr 33 0) kX12_loads_81 fRX12_19 rfl (by decide) rfl ?_
          refine zt_iload kX12_loads_84 rfl ?_
          refine zt_dup2 kX12_loads_86 (by intro x q; cases q) (by intro x q; cases q) ?_
          obtain ⟨hv, H⟩ := H
          refine zt_iald kX12_loads_87 rfl (by decide) hv ?_
          refine zt_iload_n kX12_loads_88 rfl ?_
          refine zt_iadd kX12_loads_89 ?_
          obtain ⟨hv, H⟩ := H
          refine zt_iast kX12_loads_90 rfl (by decide) hv ?_
          refine zt_heap (fun h13 eh13 => ?_)
          replace H := H h13 eh13
          refine zt_goto kX12_loads_91 ?_
          refine zt_iinc (v := (x2 + (-1))) (L' := [zr 5 0, zi x1, zi (x2 + (-1)), zi y1, zi (x2 - 4)]) kX12_loads_222 rfl rfl (by decide) rfl ?_
          refine zt_goto kX12_loads_225 ?_
          exact zt_sub [zr 5 0, zi x1, zi (x2 + (-1)), zu, zu] ⟨rfl, ⟨rfl, ⟨rfl, trivial⟩⟩⟩ H
      · replace H := H.2 c
        refine zt_goto kX12_loads_50 ?_
        refine zt_iinc (v := (x2 + (-1))) (L' := [zr 5 0, zi x1, zi (x2 + (-1)), zu, zu]) kX12_loads_222 rfl rfl (by decide) rfl ?_
        refine zt_goto kX12_loads_225 ?_
        exact H

