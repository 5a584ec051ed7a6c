/-! ===== the bytecode of these methods, walked (by program): X12_isPlace X12_isThere X12_isLight X12_isArch X12_isAt X12_weight X12_bears X12_isShelf X8_at X4_holds X3_nextChoice X0_weight X0_bears X0_price X2_weight X2_bears X2_price X7_price X11_rowRefused X11_kindRefused ===== -/
theorem kX12_isPlace_0 : zD cX12_isPlace 0 1 (.iload_n 0) 1 := by decide +kernel
theorem kX12_isPlace_1 : zD cX12_isPlace 1 2 (.iconst 0) 1 := by decide +kernel
theorem kX12_isPlace_2 : zD cX12_isPlace 2 4 (.bipush 11) 2 := by decide +kernel
theorem kX12_isPlace_4 : zD cX12_isPlace 4 7 (.invokestatic 53) 3 := by decide +kernel
theorem kX12_isPlace_7 : zD cX12_isPlace 7 8 (.ireturn) 1 := by decide +kernel
set_option maxRecDepth 10000 in
theorem wX12_isPlace_0 {G : ZG} {d : Nat} {h : ZH} {Q : Option ZV → ZH → Prop} {x0 : Int32} 
  (H : Q (some (zi (zb ((0 : Int32) ≤ x0 ∧ x0 ≤ (11 : Int32))))) h) :
  zT G (d + 2) mX12_isPlace 0 [zi x0] [] h Q := by
  refine zt_iload_n kX12_isPlace_0 rfl ?_
  refine zt_iconst (v := 0) kX12_isPlace_1 rfl ?_
  refine zt_bipush (v := 11) kX12_isPlace_2 rfl ?_
  refine zt_cS (as := [zi x0, zi 0, zi 11]) kX12_isPlace_4 sRX12_53 rfl (by simp) rfl (sX12_isIn _  ) (fun r h0 hq => ?_)
  obtain ⟨rfl, hh⟩ := hq
  replace hh := hh.symm
  subst hh
  exact zt_zret kX12_isPlace_7 rfl (zb_01 _) H

theorem kX12_isThere_0 : zD cX12_isThere 0 1 (.aload_n 0) 1 := by decide +kernel
theorem kX12_isThere_1 : zD cX12_isThere 1 4 (.getfield 9) 3 := by decide +kernel
theorem kX12_isThere_4 : zD cX12_isThere 4 5 (.iconst 0) 1 := by decide +kernel
theorem kX12_isThere_5 : zD cX12_isThere 5 6 (.iaload) 1 := by decide +kernel
theorem kX12_isThere_6 : zD cX12_isThere 6 7 (.iload_n 1) 1 := by decide +kernel
theorem kX12_isThere_7 : zD cX12_isThere 7 10 (.invokestatic 57) 3 := by decide +kernel
theorem kX12_isThere_10 : zD cX12_isThere 10 11 (.ireturn) 1 := by decide +kernel
set_option maxRecDepth 10000 in
theorem wX12_isThere_0 {G : ZG} {d : Nat} {h : ZH} {Q : Option ZV → ZH → Prop} {x1 : Int32} 
  (H : Q (some (zi (zb (hasI (h.1 30 0 0) x1)))) h) :
  zT G (d + 2) mX12_isThere 0 [zr 5 0, zi x1] [] h Q := by
  refine zt_aload_n kX12_isThere_0 rfl ?_
  refine zt_get (v := zr 30 0) kX12_isThere_1 fRX12_9 rfl (by decide) rfl ?_
  refine zt_iconst (v := 0) kX12_isThere_4 rfl ?_
  refine zt_ialdc 0 rfl kX12_isThere_5 rfl (by decide) (zvp_dec (by decide)) ?_
  refine zt_iload_n kX12_isThere_6 rfl ?_
  refine zt_cS (as := [zi (h.1 30 0 0), zi x1]) kX12_isThere_7 sRX12_57 rfl (by simp) rfl (sX12_has _  ) (fun r h0 hq => ?_)
  obtain ⟨rfl, hh⟩ := hq
  replace hh := hh.symm
  subst hh
  exact zt_zret kX12_isThere_10 rfl (zb_01 _) H

theorem kX12_isLight_0 : zD cX12_isLight 0 1 (.aload_n 0) 1 := by decide +kernel
theorem kX12_isLight_1 : zD cX12_isLight 1 2 (.iload_n 1) 1 := by decide +kernel
theorem kX12_isLight_2 : zD cX12_isLight 2 5 (.invokevirtual 65) 3 := by decide +kernel
theorem kX12_isLight_5 : zD cX12_isLight 5 6 (.iconst 3) 1 := by decide +kernel
theorem kX12_isLight_6 : zB cX12_isLight 6 9 19 (.if_icmp .eq 13) 13 := by decide +kernel
theorem kX12_isLight_9 : zD cX12_isLight 9 10 (.aload_n 0) 1 := by decide +kernel
theorem kX12_isLight_10 : zD cX12_isLight 10 11 (.iload_n 1) 1 := by decide +kernel
theorem kX12_isLight_11 : zD cX12_isLight 11 14 (.invokevirtual 65) 3 := by decide +kernel
theorem kX12_isLight_14 : zD cX12_isLight 14 16 (.bipush 7) 2 := by decide +kernel
theorem kX12_isLight_16 : zB cX12_isLight 16 19 23 (.if_icmp .ne 7) 7 := by decide +kernel
theorem kX12_isLight_19 : zD cX12_isLight 19 20 (.iconst 1) 1 := by decide +kernel
theorem kX12_isLight_20 : zB cX12_isLight 20 23 24 (.goto 4) 4 := by decide +kernel
theorem kX12_isLight_23 : zD cX12_isLight 23 24 (.iconst 0) 1 := by decide +kernel
theorem kX12_isLight_24 : zD cX12_isLight 24 25 (.ireturn) 1 := by decide +kernel
set_option maxRecDepth 10000 in
theorem wX12_isLight_0 {G : ZG} {d : Nat} {h : ZH} {Q : Option ZV → ZH → Prop} {x1 : Int32} 
  (H : vp_in x1 12 ∧ (((kindI h x1) = 3 → Q (some (zi 1)) h) ∧ (¬ (kindI h x1) = 3 → vp_in x1 12 ∧ ((¬ (kindI h x1) = 7 → Q (some (zi 0)) h) ∧ ((kindI h x1) = 7 → Q (some (zi 1)) h))))) :
  zT G (d + 2) mX12_isLight 0 [zr 5 0, zi x1] [] h Q := by
  refine zt_aload_n kX12_isLight_0 rfl ?_
  refine zt_iload_n kX12_isLight_1 rfl ?_
  obtain ⟨pp0, H⟩ := H
  refine zt_cV (as := [zi x1]) kX12_isLight_2 sRX12_65 rfl (by decide) rfl (by simp) rfl (sX12_kind _  pp0) (fun r h0 hq => ?_)
  obtain ⟨rfl, hh⟩ := hq
  replace hh := hh.symm
  subst hh
  refine zt_iconst (v := 3) kX12_isLight_5 rfl ?_
  refine zt_icmp_eq kX12_isLight_6 (fun c => ?_) (fun c => ?_)
  · replace H := H.1 c
    refine zt_iconst (v := 1) kX12_isLight_19 rfl ?_
    refine zt_goto kX12_isLight_20 ?_
    exact zt_zret kX12_isLight_24 rfl (by decide) H
  · replace H := H.2 c
    refine zt_aload_n kX12_isLight_9 rfl ?_
    refine zt_iload_n kX12_isLight_10 rfl ?_
    obtain ⟨pp0, H⟩ := H
    refine zt_cV (as := [zi x1]) kX12_isLight_11 sRX12_65 rfl (by decide) rfl (by simp) rfl (sX12_kind _  pp0) (fun r h0 hq => ?_)
    obtain ⟨rfl, hh⟩ := hq
    replace hh := hh.symm
    subst hh
    refine zt_bipush (v := 7) kX12_isLight_14 rfl ?_
    refine zt_icmp_ne kX12_isLight_16 (fun c => ?_) (fun c => ?_)
    · replace H := H.1 c
      refine zt_iconst (v := 0) kX12_isLight_23 rfl ?_
      exact zt_zret kX12_isLight_24 rfl (by decide) H
    · replace H := H.2 c
      refine zt_iconst (v := 1) kX12_isLight_19 rfl ?_
      refine zt_goto kX12_isLight_20 ?_
      exact zt_zret kX12_isLight_24 rfl (by decide) H

theorem kX12_isArch_0 : zD cX12_isArch 0 1 (.aload_n 0) 1 := by decide +kernel
theorem kX12_isArch_1 : zD cX12_isArch 1 2 (.iload_n 1) 1 := by decide +kernel
theorem kX12_isArch_2 : zD cX12_isArch 2 5 (.invokevirtual 65) 3 := by decide +kernel
theorem kX12_isArch_5 : zD cX12_isArch 5 6 (.iconst 2) 1 := by decide +kernel
theorem kX12_isArch_6 : zB cX12_isArch 6 9 18 (.if_icmp .eq 12) 12 := by decide +kernel
theorem kX12_isArch_9 : zD cX12_isArch 9 10 (.aload_n 0) 1 := by decide +kernel
theorem kX12_isArch_10 : zD cX12_isArch 10 11 (.iload_n 1) 1 := by decide +kernel
theorem kX12_isArch_11 : zD cX12_isArch 11 14 (.invokevirtual 65) 3 := by decide +kernel
theorem kX12_isArch_14 : zD cX12_isArch 14 15 (.iconst 4) 1 := by decide +kernel
theorem kX12_isArch_15 : zB cX12_isArch 15 18 22 (.if_icmp .ne 7) 7 := by decide +kernel
theorem kX12_isArch_18 : zD cX12_isArch 18 19 (.iconst 1) 1 := by decide +kernel
theorem kX12_isArch_19 : zB cX12_isArch 19 22 23 (.goto 4) 4 := by decide +kernel
theorem kX12_isArch_22 : zD cX12_isArch 22 23 (.iconst 0) 1 := by decide +kernel
theorem kX12_isArch_23 : zD cX12_isArch 23 24 (.ireturn) 1 := by decide +kernel
set_option maxRecDepth 10000 in
theorem wX12_isArch_0 {G : ZG} {d : Nat} {h : ZH} {Q : Option ZV → ZH → Prop} {x1 : Int32} 
  (H : vp_in x1 12 ∧ (((kindI h x1) = 2 → Q (some (zi 1)) h) ∧ (¬ (kindI h x1) = 2 → vp_in x1 12 ∧ ((¬ (kindI h x1) = 4 → Q (some (zi 0)) h) ∧ ((kindI h x1) = 4 → Q (some (zi 1)) h))))) :
  zT G (d + 2) mX12_isArch 0 [zr 5 0, zi x1] [] h Q := by
  refine zt_aload_n kX12_isArch_0 rfl ?_
  refine zt_iload_n kX12_isArch_1 rfl ?_
  obtain ⟨pp0, H⟩ := H
  refine zt_cV (as := [zi x1]) kX12_isArch_2 sRX12_65 rfl (by decide) rfl (by simp) rfl (sX12_kind _  pp0) (fun r h0 hq => ?_)
  obtain ⟨rfl, hh⟩ := hq
  replace hh := hh.symm
  subst hh
  refine zt_iconst (v := 2) kX12_isArch_5 rfl ?_
  refine zt_icmp_eq kX12_isArch_6 (fun c => ?_) (fun c => ?_)
  · replace H := H.1 c
    refine zt_iconst (v := 1) kX12_isArch_18 rfl ?_
    refine zt_goto kX12_isArch_19 ?_
    exact zt_zret kX12_isArch_23 rfl (by decide) H
  · replace H := H.2 c
    refine zt_aload_n kX12_isArch_9 rfl ?_
    refine zt_iload_n kX12_isArch_10 rfl ?_
    obtain ⟨pp0, H⟩ := H
    refine zt_cV (as := [zi x1]) kX12_isArch_11 sRX12_65 rfl (by decide) rfl (by simp) rfl (sX12_kind _  pp0) (fun r h0 hq => ?_)
    obtain ⟨rfl, hh⟩ := hq
    replace hh := hh.symm
    subst hh
    refine zt_iconst (v := 4) kX12_isArch_14 rfl ?_
    refine zt_icmp_ne kX12_isArch_15 (fun c => ?_) (fun c => ?_)
    · replace H := H.1 c
      refine zt_iconst (v := 0) kX12_isArch_22 rfl ?_
      exact zt_zret kX12_isArch_23 rfl (by decide) H
    · replace H := H.2 c
      refine zt_iconst (v := 1) kX12_isArch_18 rfl ?_
      refine zt_goto kX12_isArch_19 ?_
      exact zt_zret kX12_isArch_23 rfl (by decide) H

theorem kX12_isAt_0 : zD cX12_isAt 0 1 (.iload_n 2) 1 := by decide +kernel
theorem kX12_isAt_1 : zD cX12_isAt 1 2 (.iconst 0) 1 := by decide +kernel
theorem kX12_isAt_2 : zD cX12_isAt 2 3 (.iconst 3) 1 := by decide +kernel
theorem kX12_isAt_3 : zD cX12_isAt 3 6 (.invokestatic 53) 3 := by decide +kernel
theorem kX12_isAt_6 : zB cX12_isAt 6 9 25 (.ifCond .eq 19) 19 := by decide +kernel
theorem kX12_isAt_9 : zD cX12_isAt 9 10 (.iload_n 0) 1 := by decide +kernel
theorem kX12_isAt_10 : zD cX12_isAt 10 11 (.iconst 4) 1 := by decide +kernel
theorem kX12_isAt_11 : zD cX12_isAt 11 12 (.iload_n 1) 1 := by decide +kernel
theorem kX12_isAt_12 : zD cX12_isAt 12 13 (.imul) 1 := by decide +kernel
theorem kX12_isAt_13 : zD cX12_isAt 13 14 (.iload_n 2) 1 := by decide +kernel
theorem kX12_isAt_14 : zD cX12_isAt 14 15 (.iadd) 1 := by decide +kernel
theorem kX12_isAt_15 : zD cX12_isAt 15 18 (.invokestatic 57) 3 := by decide +kernel
theorem kX12_isAt_18 : zB cX12_isAt 18 21 25 (.ifCond .eq 7) 7 := by decide +kernel
theorem kX12_isAt_21 : zD cX12_isAt 21 22 (.iconst 1) 1 := by decide +kernel
theorem kX12_isAt_22 : zB cX12_isAt 22 25 26 (.goto 4) 4 := by decide +kernel
theorem kX12_isAt_25 : zD cX12_isAt 25 26 (.iconst 0) 1 := by decide +kernel
theorem kX12_isAt_26 : zD cX12_isAt 26 27 (.ireturn) 1 := by decide +kernel
set_option maxRecDepth 10000 in
theorem wX12_isAt_0 {G : ZG} {d : Nat} {h : ZH} {Q : Option ZV → ZH → Prop} {x0 : Int32} {x1 : Int32} {x2 : Int32} 
  (H : (¬ ((0 : Int32) ≤ x2 ∧ x2 ≤ (3 : Int32)) → Q (some (zi 0)) h) ∧ (((0 : Int32) ≤ x2 ∧ x2 ≤ (3 : Int32)) → (¬ (hasI x0 ((4 * x1) + x2)) → Q (some (zi 0)) h) ∧ ((hasI x0 ((4 * x1) + x2)) → Q (some (zi 1)) h))) :
  zT G (d + 2) mX12_isAt 0 [zi x0, zi x1, zi x2] [] h Q := by
  refine zt_iload_n kX12_isAt_0 rfl ?_
  refine zt_iconst (v := 0) kX12_isAt_1 rfl ?_
  refine zt_iconst (v := 3) kX12_isAt_2 rfl ?_
  refine zt_cS (as := [zi x2, zi 0, zi 3]) kX12_isAt_3 sRX12_53 rfl (by simp) rfl (sX12_isIn _  ) (fun r h0 hq => ?_)
  obtain ⟨rfl, hh⟩ := hq
  replace hh := hh.symm
  subst hh
  refine zt_ifb_eq kX12_isAt_6 (fun c => ?_) (fun c => ?_)
  · replace H := H.1 c
    refine zt_iconst (v := 0) kX12_isAt_25 rfl ?_
    exact zt_zret kX12_isAt_26 rfl (by decide) H
  · replace H := H.2 c
    refine zt_iload_n kX12_isAt_9 rfl ?_
    refine zt_iconst (v := 4) kX12_isAt_10 rfl ?_
    refine zt_iload_n kX12_isAt_11 rfl ?_
    refine zt_imul kX12_isAt_12 ?_
    refine zt_iload_n kX12_isAt_13 rfl ?_
    refine zt_iadd kX12_isAt_14 ?_
    refine zt_cS (as := [zi x0, zi ((4 * x1) + x2)]) kX12_isAt_15 sRX12_57 rfl (by simp) rfl (sX12_has _  ) (fun r h0 hq => ?_)
    obtain ⟨rfl, hh⟩ := hq
    replace hh := hh.symm
    subst hh
    refine zt_ifb_eq kX12_isAt_18 (fun c => ?_) (fun c => ?_)
    · replace H := H.1 c
      refine zt_iconst (v := 0) kX12_isAt_25 rfl ?_
      exact zt_zret kX12_isAt_26 rfl (by decide) H
    · replace H := H.2 c
      refine zt_iconst (v := 1) kX12_isAt_21 rfl ?_
      refine zt_goto kX12_isAt_22 ?_
      exact zt_zret kX12_isAt_26 rfl (by decide) H

theorem kX12_weight_0 : zD cX12_weight 0 1 (.aload_n 0) 1 := by decide +kernel
theorem kX12_weight_1 : zD cX12_weight 1 2 (.iload_n 1) 1 := by decide +kernel
theorem kX12_weight_2 : zD cX12_weight 2 5 (.invokevirtual 61) 3 := by decide +kernel
theorem kX12_weight_5 : zD cX12_weight 5 6 (.istore_n 2) 1 := by decide +kernel
theorem kX12_weight_6 : zD cX12_weight 6 7 (.aload_n 0) 1 := by decide +kernel
theorem kX12_weight_7 : zD cX12_weight 7 8 (.iload_n 1) 1 := by decide +kernel
theorem kX12_weight_8 : zD cX12_weight 8 11 (.invokevirtual 65) 3 := by decide +kernel
theorem kX12_weight_11 : decode cX12_weight 11 = .ok (.tableswitch 65 1 7 #[41, 45, 49, 51, 41, 57, 63], 41) := by decide +kernel
theorem kX12_weight_52 : zD cX12_weight 52 53 (.iconst 5) 1 := by decide +kernel
theorem kX12_weight_53 : zD cX12_weight 53 54 (.iload_n 2) 1 := by decide +kernel
theorem kX12_weight_54 : zD cX12_weight 54 55 (.iadd) 1 := by decide +kernel
theorem kX12_weight_55 : zD cX12_weight 55 56 (.ireturn) 1 := by decide +kernel
theorem kX12_weight_56 : zD cX12_weight 56 57 (.iconst 1) 1 := by decide +kernel
theorem kX12_weight_57 : zD cX12_weight 57 58 (.iload_n 2) 1 := by decide +kernel
theorem kX12_weight_58 : zD cX12_weight 58 59 (.iadd) 1 := by decide +kernel
theorem kX12_weight_59 : zD cX12_weight 59 60 (.ireturn) 1 := by decide +kernel
theorem kX12_weight_60 : zD cX12_weight 60 61 (.iconst 1) 1 := by decide +kernel
theorem kX12_weight_61 : zD cX12_weight 61 62 (.ireturn) 1 := by decide +kernel
theorem kX12_weight_62 : zD cX12_weight 62 63 (.iconst 1) 1 := by decide +kernel
theorem kX12_weight_63 : zD cX12_weight 63 64 (.iconst 2) 1 := by decide +kernel
theorem kX12_weight_64 : zD cX12_weight 64 65 (.iload_n 2) 1 := by decide +kernel
theorem kX12_weight_65 : zD cX12_weight 65 66 (.imul) 1 := by decide +kernel
theorem kX12_weight_66 : zD cX12_weight 66 67 (.iadd) 1 := by decide +kernel
theorem kX12_weight_67 : zD cX12_weight 67 68 (.ireturn) 1 := by decide +kernel
theorem kX12_weight_68 : zD cX12_weight 68 69 (.iconst 2) 1 := by decide +kernel
theorem kX12_weight_69 : zD cX12_weight 69 70 (.iconst 2) 1 := by decide +kernel
theorem kX12_weight_70 : zD cX12_weight 70 71 (.iload_n 2) 1 := by decide +kernel
theorem kX12_weight_71 : zD cX12_weight 71 72 (.imul) 1 := by decide +kernel
theorem kX12_weight_72 : zD cX12_weight 72 73 (.iadd) 1 := by decide +kernel
theorem kX12_weight_73 : zD cX12_weight 73 74 (.ireturn) 1 := by decide +kernel
theorem kX12_weight_74 : zD cX12_weight 74 75 (.iconst 0) 1 := by decide +kernel
theorem kX12_weight_75 : zD cX12_weight 75 76 (.ireturn) 1 := by decide +kernel
theorem kX12_weight_76 : zD cX12_weight 76 77 (.iconst 2) 1 := by decide +kernel
theorem kX12_weight_77 : zD cX12_weight 77 78 (.iload_n 2) 1 := by decide +kernel
theorem kX12_weight_78 : zD cX12_weight 78 79 (.iadd) 1 := by decide +kernel
theorem kX12_weight_79 : zD cX12_weight 79 80 (.ireturn) 1 := by decide +kernel
set_option maxRecDepth 10000 in
theorem wX12_weight_0 {G : ZG} {d : Nat} {h : ZH} {Q : Option ZV → ZH → Prop} {x1 : Int32} 
  (H : vp_in x1 12 ∧ (vp_in x1 12 ∧ (((kindI h x1) = 1 → Q (some (zi (5 + (figI h x1)))) h) ∧ (¬ (kindI h x1) = 1 → ((kindI h x1) = 2 → Q (some (zi (1 + (figI h x1)))) h) ∧ (¬ (kindI h x1) = 2 → ((kindI h x1) = 3 → Q (some (zi 1)) h) ∧ (¬ (kindI h x1) = 3 → ((kindI h x1) = 4 → Q (some (zi (1 + (2 * (figI h x1))))) h) ∧ (¬ (kindI h x1) = 4 → ((kindI h x1) = 5 → Q (some (zi (5 + (figI h x1)))) h) ∧ (¬ (kindI h x1) = 5 → ((kindI h x1) = 6 → Q (some (zi (2 + (2 * (figI h x1))))) h) ∧ (¬ (kindI h x1) = 6 → ((kindI h x1) = 7 → Q (some (zi 0)) h) ∧ (¬ (kindI h x1) = 7 → Q (some (zi (2 + (figI h x1)))) h)))))))))) :
  zT G (d + 2) mX12_weight 0 [zr 5 0, zi x1, zu] [] h Q := by
  refine zt_aload_n kX12_weight_0 rfl ?_
  refine zt_iload_n kX12_weight_1 rfl ?_
  obtain ⟨pp0, H⟩ := H
  refine zt_cV (as := [zi x1]) kX12_weight_2 sRX12_61 rfl (by decide) rfl (by simp) rfl (sX12_figure _  pp0) (fun r h0 hq => ?_)
  obtain ⟨rfl, hh⟩ := hq
  replace hh := hh.symm
  subst hh
  refine zt_istore_n (L' := [zr 5 0, zi x1, zi (figI h x1)]) kX12_weight_5 (by decide) rfl ?_
  refine zt_aload_n kX12_weight_6 rfl ?_
  refine zt_iload_n kX12_weight_7 rfl ?_
  obtain ⟨pp0, H⟩ := H
  refine zt_cV (as := [zi x1]) kX12_weight_8 sRX12_65 rfl (by decide) rfl (by simp) rfl (sX12_kind _  pp0) (fun r h0 hq => ?_)
  obtain ⟨rfl, hh⟩ := hq
  replace hh := hh.symm
  subst hh
  rcases Classical.em ((kindI h x1) = 1) with c0 | c0
  · replace H := H.1 c0
    refine zt_tabIn (tgt := 52) kX12_weight_11 (by rw [c0]; decide) (by rw [c0]; decide) (by rw [c0]; rfl) (by decide) ?_
    refine zt_iconst (v := 5) kX12_weight_52 rfl ?_
    refine zt_iload_n kX12_weight_53 rfl ?_
    refine zt_iadd kX12_weight_54 ?_
    exact zt_iret kX12_weight_55 rfl H
  replace H := H.2 c0
  rcases Classical.em ((kindI h x1) = 2) with c1 | c1
  · replace H := H.1 c1
    refine zt_tabIn (tgt := 56) kX12_weight_11 (by rw [c1]; decide) (by rw [c1]; decide) (by rw [c1]; rfl) (by decide) ?_
    refine zt_iconst (v := 1) kX12_weight_56 rfl ?_
    refine zt_iload_n kX12_weight_57 rfl ?_
    refine zt_iadd kX12_weight_58 ?_
    exact zt_iret kX12_weight_59 rfl H
  replace H := H.2 c1
  rcases Classical.em ((kindI h x1) = 3) with c2 | c2
  · replace H := H.1 c2
    refine zt_tabIn (tgt := 60) kX12_weight_11 (by rw [c2]; decide) (by rw [c2]; decide) (by rw [c2]; rfl) (by decide) ?_
    refine zt_iconst (v := 1) kX12_weight_60 rfl ?_
    exact zt_iret kX12_weight_61 rfl H
  replace H := H.2 c2
  rcases Classical.em ((kindI h x1) = 4) with c3 | c3
  · replace H := H.1 c3
    refine zt_tabIn (tgt := 62) kX12_weight_11 (by rw [c3]; decide) (by rw [c3]; decide) (by rw [c3]; rfl) (by decide) ?_
    refine zt_iconst (v := 1) kX12_weight_62 rfl ?_
    refine zt_iconst (v := 2) kX12_weight_63 rfl ?_
    refine zt_iload_n kX12_weight_64 rfl ?_
    refine zt_imul kX12_weight_65 ?_
    refine zt_iadd kX12_weight_66 ?_
    exact zt_iret kX12_weight_67 rfl H
  replace H := H.2 c3
  rcases Classical.em ((kindI h x1) = 5) with c4 | c4
  · replace H := H.1 c4
    refine zt_tabIn (tgt := 52) kX12_weight_11 (by rw [c4]; decide) (by rw [c4]; decide) (by rw [c4]; rfl) (by decide) ?_
    refine zt_iconst (v := 5) kX12_weight_52 rfl ?_
    refine zt_iload_n kX12_weight_53 rfl ?_
    refine zt_iadd kX12_weight_54 ?_
    exact zt_iret kX12_weight_55 rfl H
  replace H := H.2 c4
  rcases Classical.em ((kindI h x1) = 6) with c5 | c5
  · replace H := H.1 c5
    refine zt_tabIn (tgt := 68) kX12_weight_11 (by rw [c5]; decide) (by rw [c5]; decide) (by rw [c5]; rfl) (by decide) ?_
    refine zt_iconst (v := 2) kX12_weight_68 rfl ?_
    refine zt_iconst (v := 2) kX12_weight_69 rfl ?_
    refine zt_iload_n kX12_weight_70 rfl ?_
    refine zt_imul kX12_weight_71 ?_
    refine zt_iadd kX12_weight_72 ?_
    exact zt_iret kX12_weight_73 rfl H
  replace H := H.2 c5
  rcases Classical.em ((kindI h x1) = 7) with c6 | c6
  · replace H := H.1 c6
    refine zt_tabIn (tgt := 74) kX12_weight_11 (by rw [c6]; decide) (by rw [c6]; decide) (by rw [c6]; rfl) (by decide) ?_
    refine zt_iconst (v := 0) kX12_weight_74 rfl ?_
    exact zt_iret kX12_weight_75 rfl H
  replace H := H.2 c6
  refine zt_tabOut (tgt := 76) kX12_weight_11 (by have n0 := lv_neT (a := 1) c0 rfl; have n1 := lv_neT (a := 2) c1 rfl; have n2 := lv_neT (a := 3) c2 rfl; have n3 := lv_neT (a := 4) c3 rfl; have n4 := lv_neT (a := 5) c4 rfl; have n5 := lv_neT (a := 6) c5 rfl; have n6 := lv_neT (a := 7) c6 rfl; omega) (by decide) ?_
  refine zt_iconst (v := 2) kX12_weight_76 rfl ?_
  refine zt_iload_n kX12_weight_77 rfl ?_
  refine zt_iadd kX12_weight_78 ?_
  exact zt_iret kX12_weight_79 rfl H

theorem kX12_bears_0 : zD cX12_bears 0 1 (.aload_n 0) 1 := by decide +kernel
theorem kX12_bears_1 : zD cX12_bears 1 2 (.iload_n 1) 1 := by decide +kernel
theorem kX12_bears_2 : zD cX12_bears 2 5 (.invokevirtual 65) 3 := by decide +kernel
theorem kX12_bears_5 : decode cX12_bears 5 = .ok (.tableswitch 74 1 7 #[43, 55, 67, 58, 46, 69, 72], 43) := by decide +kernel
theorem kX12_bears_48 : zD cX12_bears 48 50 (.bipush 40) 2 := by decide +kernel
theorem kX12_bears_50 : zD cX12_bears 50 51 (.ireturn) 1 := by decide +kernel
theorem kX12_bears_51 : zD cX12_bears 51 53 (.bipush 40) 2 := by decide +kernel
theorem kX12_bears_53 : zD cX12_bears 53 54 (.aload_n 0) 1 := by decide +kernel
theorem kX12_bears_54 : zD cX12_bears 54 55 (.iload_n 1) 1 := by decide +kernel
theorem kX12_bears_55 : zD cX12_bears 55 58 (.invokevirtual 61) 3 := by decide +kernel
theorem kX12_bears_58 : zD cX12_bears 58 59 (.isub) 1 := by decide +kernel
theorem kX12_bears_59 : zD cX12_bears 59 60 (.ireturn) 1 := by decide +kernel
theorem kX12_bears_60 : zD cX12_bears 60 62 (.bipush 12) 2 := by decide +kernel
theorem kX12_bears_62 : zD cX12_bears 62 63 (.ireturn) 1 := by decide +kernel
theorem kX12_bears_63 : zD cX12_bears 63 65 (.bipush 12) 2 := by decide +kernel
theorem kX12_bears_65 : zD cX12_bears 65 66 (.aload_n 0) 1 := by decide +kernel
theorem kX12_bears_66 : zD cX12_bears 66 67 (.iload_n 1) 1 := by decide +kernel
theorem kX12_bears_67 : zD cX12_bears 67 70 (.invokevirtual 61) 3 := by decide +kernel
theorem kX12_bears_70 : zD cX12_bears 70 71 (.iadd) 1 := by decide +kernel
theorem kX12_bears_71 : zD cX12_bears 71 72 (.ireturn) 1 := by decide +kernel
theorem kX12_bears_72 : zD cX12_bears 72 73 (.iconst 3) 1 := by decide +kernel
theorem kX12_bears_73 : zD cX12_bears 73 74 (.ireturn) 1 := by decide +kernel
theorem kX12_bears_74 : zD cX12_bears 74 76 (.bipush 6) 2 := by decide +kernel
theorem kX12_bears_76 : zD cX12_bears 76 77 (.ireturn) 1 := by decide +kernel
theorem kX12_bears_77 : zD cX12_bears 77 78 (.iconst 0) 1 := by decide +kernel
theorem kX12_bears_78 : zD cX12_bears 78 79 (.ireturn) 1 := by decide +kernel
theorem kX12_bears_79 : zD cX12_bears 79 81 (.bipush 20) 2 := by decide +kernel
theorem kX12_bears_81 : zD cX12_bears 81 82 (.ireturn) 1 := by decide +kernel
set_option maxRecDepth 10000 in
theorem wX12_bears_0 {G : ZG} {d : Nat} {h : ZH} {Q : Option ZV → ZH → Prop} {x1 : Int32} 
  (H : vp_in x1 12 ∧ (((kindI h x1) = 1 → Q (some (zi 40)) h) ∧ (¬ (kindI h x1) = 1 → ((kindI h x1) = 2 → Q (some (zi 12)) h) ∧ (¬ (kindI h x1) = 2 → ((kindI h x1) = 3 → Q (some (zi 3)) h) ∧ (¬ (kindI h x1) = 3 → ((kindI h x1) = 4 → vp_in x1 12 ∧ (Q (some (zi (12 + (figI h x1)))) h)) ∧ (¬ (kindI h x1) = 4 → ((kindI h x1) = 5 → vp_in x1 12 ∧ (Q (some (zi (40 - (figI h x1)))) h)) ∧ (¬ (kindI h x1) = 5 → ((kindI h x1) = 6 → Q (some (zi 6)) h) ∧ (¬ (kindI h x1) = 6 → ((kindI h x1) = 7 → Q (some (zi 0)) h) ∧ (¬ (kindI h x1) = 7 → Q (some (zi 20)) h))))))))) :
  zT G (d + 2) mX12_bears 0 [zr 5 0, zi x1] [] h Q := by
  refine zt_aload_n kX12_bears_0 rfl ?_
  refine zt_iload_n kX12_bears_1 rfl ?_
  obtain ⟨pp0, H⟩ := H
  refine zt_cV (as := [zi x1]) kX12_bears_2 sRX12_65 rfl (by decide) rfl (by simp) rfl (sX12_kind _  pp0) (fun r h0 hq => ?_)
  obtain ⟨rfl, hh⟩ := hq
  replace hh := hh.symm
  subst hh
  rcases Classical.em ((kindI h x1) = 1) with c0 | c0
  · replace H := H.1 c0
    refine zt_tabIn (tgt := 48) kX12_bears_5 (by rw [c0]; decide) (by rw [c0]; decide) (by rw [c0]; rfl) (by decide) ?_
    refine zt_bipush (v := 40) kX12_bears_48 rfl ?_
    exact zt_iret kX12_bears_50 rfl H
  replace H := H.2 c0
  rcases Classical.em ((kindI h x1) = 2) with c1 | c1
  · replace H := H.1 c1
    refine zt_tabIn (tgt := 60) kX12_bears_5 (by rw [c1]; decide) (by rw [c1]; decide) (by rw [c1]; rfl) (by decide) ?_
    refine zt_bipush (v := 12) kX12_bears_60 rfl ?_
    exact zt_iret kX12_bears_62 rfl H
  replace H := H.2 c1
  rcases Classical.em ((kindI h x1) = 3) with c2 | c2
  · replace H := H.1 c2
    refine zt_tabIn (tgt := 72) kX12_bears_5 (by rw [c2]; decide) (by rw [c2]; decide) (by rw [c2]; rfl) (by decide) ?_
    refine zt_iconst (v := 3) kX12_bears_72 rfl ?_
    exact zt_iret kX12_bears_73 rfl H
  replace H := H.2 c2
  rcases Classical.em ((kindI h x1) = 4) with c3 | c3
  · replace H := H.1 c3
    refine zt_tabIn (tgt := 63) kX12_bears_5 (by rw [c3]; decide) (by rw [c3]; decide) (by rw [c3]; rfl) (by decide) ?_
    refine zt_bipush (v := 12) kX12_bears_63 rfl ?_
    refine zt_aload_n kX12_bears_65 rfl ?_
    refine zt_iload_n kX12_bears_66 rfl ?_
    obtain ⟨pp0, H⟩ := H
    refine zt_cV (as := [zi x1]) kX12_bears_67 sRX12_61 rfl (by decide) rfl (by simp) rfl (sX12_figure _  pp0) (fun r h0 hq => ?_)
    obtain ⟨rfl, hh⟩ := hq
    replace hh := hh.symm
    subst hh
    refine zt_iadd kX12_bears_70 ?_
    exact zt_iret kX12_bears_71 rfl H
  replace H := H.2 c3
  rcases Classical.em ((kindI h x1) = 5) with c4 | c4
  · replace H := H.1 c4
    refine zt_tabIn (tgt := 51) kX12_bears_5 (by rw [c4]; decide) (by rw [c4]; decide) (by rw [c4]; rfl) (by decide) ?_
    refine zt_bipush (v := 40) kX12_bears_51 rfl ?_
    refine zt_aload_n kX12_bears_53 rfl ?_
    refine zt_iload_n kX12_bears_54 rfl ?_
    obtain ⟨pp0, H⟩ := H
    refine zt_cV (as := [zi x1]) kX12_bears_55 sRX12_61 rfl (by decide) rfl (by simp) rfl (sX12_figure _  pp0) (fun r h0 hq => ?_)
    obtain ⟨rfl, hh⟩ := hq
    replace hh := hh.symm
    subst hh
    refine zt_isub kX12_bears_58 ?_
    exact zt_iret kX12_bears_59 rfl H
  replace H := H.2 c4
  rcases Classical.em ((kindI h x1) = 6) with c5 | c5
  · replace H := H.1 c5
    refine zt_tabIn (tgt := 74) kX12_bears_5 (by rw [c5]; decide) (by rw [c5]; decide) (by rw [c5]; rfl) (by decide) ?_
    refine zt_bipush (v := 6) kX12_bears_74 rfl ?_
    exact zt_iret kX12_bears_76 rfl H
  replace H := H.2 c5
  rcases Classical.em ((kindI h x1) = 7) with c6 | c6
  · replace H := H.1 c6
    refine zt_tabIn (tgt := 77) kX12_bears_5 (by rw [c6]; decide) (by rw [c6]; decide) (by rw [c6]; rfl) (by decide) ?_
    refine zt_iconst (v := 0) kX12_bears_77 rfl ?_
    exact zt_iret kX12_bears_78 rfl H
  replace H := H.2 c6
  refine zt_tabOut (tgt := 79) kX12_bears_5 (by have n0 := lv_neT (a := 1) c0 rfl; have n1 := lv_neT (a := 2) c1 rfl; have n2 := lv_neT (a := 3) c2 rfl; have n3 := lv_neT (a := 4) c3 rfl; have n4 := lv_neT (a := 5) c4 rfl; have n5 := lv_neT (a := 6) c5 rfl; have n6 := lv_neT (a := 7) c6 rfl; omega) (by decide) ?_
  refine zt_bipush (v := 20) kX12_bears_79 rfl ?_
  exact zt_iret kX12_bears_81 rfl H

theorem kX12_isShelf_0 : zD cX12_isShelf 0 1 (.iload_n 0) 1 := by decide +kernel
theorem kX12_isShelf_1 : zD cX12_isShelf 1 2 (.iconst 0) 1 := by decide +kernel
theorem kX12_isShelf_2 : zD cX12_isShelf 2 4 (.bipush 7) 2 := by decide +kernel
theorem kX12_isShelf_4 : zD cX12_isShelf 4 7 (.invokestatic 53) 3 := by decide +kernel
theorem kX12_isShelf_7 : zD cX12_isShelf 7 8 (.ireturn) 1 := by decide +kernel
set_option maxRecDepth 10000 in
theorem wX12_isShelf_0 {G : ZG} {d : Nat} {h : ZH} {Q : Option ZV → ZH → Prop} {x0 : Int32} 
  (H : Q (some (zi (zb ((0 : Int32) ≤ x0 ∧ x0 ≤ (7 : Int32))))) h) :
  zT G (d + 2) mX12_isShelf 0 [zi x0] [] h Q := by
  refine zt_iload_n kX12_isShelf_0 rfl ?_
  refine zt_iconst (v := 0) kX12_isShelf_1 rfl ?_
  refine zt_bipush (v := 7) kX12_isShelf_2 rfl ?_
  refine zt_cS (as := [zi x0, zi 0, zi 7]) kX12_isShelf_4 sRX12_53 rfl (by simp) rfl (sX12_isIn _  ) (fun r h0 hq => ?_)
  obtain ⟨rfl, hh⟩ := hq
  replace hh := hh.symm
  subst hh
  exact zt_zret kX12_isShelf_7 rfl (zb_01 _) H

theorem kX8_at_0 : zD cX8_at 0 1 (.aload_n 0) 1 := by decide +kernel
theorem kX8_at_1 : zD cX8_at 1 2 (.iload_n 1) 1 := by decide +kernel
theorem kX8_at_2 : zD cX8_at 2 5 (.invokevirtual 37) 3 := by decide +kernel
theorem kX8_at_5 : zB cX8_at 5 8 17 (.ifCond .eq 12) 12 := by decide +kernel
theorem kX8_at_8 : zD cX8_at 8 9 (.aload_n 0) 1 := by decide +kernel
theorem kX8_at_9 : zD cX8_at 9 12 (.getfield 27) 3 := by decide +kernel
theorem kX8_at_12 : zD cX8_at 12 13 (.iload_n 1) 1 := by decide +kernel
theorem kX8_at_13 : zD cX8_at 13 14 (.iaload) 1 := by decide +kernel
theorem kX8_at_14 : zB cX8_at 14 17 18 (.goto 4) 4 := by decide +kernel
theorem kX8_at_17 : zD cX8_at 17 18 (.iconst (-1)) 1 := by decide +kernel
theorem kX8_at_18 : zD cX8_at 18 19 (.ireturn) 1 := by decide +kernel
set_option maxRecDepth 10000 in
theorem wX8_at_0 {G : ZG} {d : Nat} {h : ZH} {Q : Option ZV → ZH → Prop} {i0 : Nat} {x1 : Int32} (hi0 : i0 < zcnt 3)
  (H : (¬ (0 ≤ x1 ∧ x1 < h.1 3 i0 4) → Q (some (zi (-1))) h) ∧ ((0 ≤ x1 ∧ x1 < h.1 3 i0 4) → vp_in x1 100 ∧ Q (some (zi (h.1 16 i0 x1.toNatClampNeg))) h)) :
  zT G (d + 2) mX8_at 0 [zr 3 i0, zi x1] [] h Q := by
  refine zt_aload_n kX8_at_0 rfl ?_
  refine zt_iload_n kX8_at_1 rfl ?_
  refine zt_cV (as := [zi x1]) kX8_at_2 sRX8_37 rfl hi0 rfl (by simp) rfl (sX8_hasPlace _ hi0 ) (fun r h0 hq => ?_)
  obtain ⟨rfl, hh⟩ := hq
  replace hh := hh.symm
  subst hh
  refine zt_ifb_eq kX8_at_5 (fun c => ?_) (fun c => ?_)
  · replace H := H.1 c
    refine zt_iconst (v := (-1)) kX8_at_17 rfl ?_
    exact zt_iret kX8_at_18 rfl H
  · replace H := H.2 c
    refine zt_aload_n kX8_at_8 rfl ?_
    refine zt_get (v := zr 16 i0) kX8_at_9 fRX8_27 rfl hi0 rfl ?_
    refine zt_iload_n kX8_at_12 rfl ?_
    obtain ⟨hv, H⟩ := H
    refine zt_iald kX8_at_13 rfl hi0 hv ?_
    refine zt_goto kX8_at_14 ?_
    exact zt_iret kX8_at_18 rfl H

theorem kX4_holds_0 : zD cX4_holds 0 1 (.aload_n 0) 1 := by decide +kernel
theorem kX4_holds_1 : zD cX4_holds 1 4 (.getfield 30) 3 := by decide +kernel
theorem kX4_holds_4 : zD cX4_holds 4 5 (.iload_n 1) 1 := by decide +kernel
theorem kX4_holds_5 : zD cX4_holds 5 8 (.invokestatic 43) 3 := by decide +kernel
theorem kX4_holds_8 : zD cX4_holds 8 9 (.ireturn) 1 := by decide +kernel
set_option maxRecDepth 10000 in
theorem wX4_holds_0 {G : ZG} {d : Nat} {h : ZH} {Q : Option ZV → ZH → Prop} {i0 : Nat} {x1 : Int32} (hi0 : i0 < zcnt 2)
  (H : Q (some (zi (zb (hasI (h.1 2 i0 6) x1)))) h) :
  zT G (d + 2) mX4_holds 0 [zr 2 i0, zi x1] [] h Q := by
  refine zt_aload_n kX4_holds_0 rfl ?_
  refine zt_get (v := zi (h.1 2 i0 6)) kX4_holds_1 fRX4_30 rfl hi0 rfl ?_
  refine zt_iload_n kX4_holds_4 rfl ?_
  refine zt_cS (as := [zi (h.1 2 i0 6), zi x1]) kX4_holds_5 sRX4_43 rfl (by simp) rfl (sX4_has _  ) (fun r h0 hq => ?_)
  obtain ⟨rfl, hh⟩ := hq
  replace hh := hh.symm
  subst hh
  exact zt_zret kX4_holds_8 rfl (zb_01 _) H

theorem kX3_nextChoice_0 : zD cX3_nextChoice 0 1 (.iconst 2) 1 := by decide +kernel
theorem kX3_nextChoice_1 : zD cX3_nextChoice 1 2 (.iload_n 0) 1 := by decide +kernel
theorem kX3_nextChoice_2 : zD cX3_nextChoice 2 5 (.invokestatic 56) 3 := by decide +kernel
theorem kX3_nextChoice_5 : zD cX3_nextChoice 5 6 (.ishl) 1 := by decide +kernel
theorem kX3_nextChoice_6 : zD cX3_nextChoice 6 7 (.iconst 1) 1 := by decide +kernel
theorem kX3_nextChoice_7 : zD cX3_nextChoice 7 8 (.isub) 1 := by decide +kernel
theorem kX3_nextChoice_8 : zD cX3_nextChoice 8 9 (.istore_n 1) 1 := by decide +kernel
theorem kX3_nextChoice_9 : zD cX3_nextChoice 9 10 (.iload_n 0) 1 := by decide +kernel
theorem kX3_nextChoice_10 : zB cX3_nextChoice 10 13 15 (.ifCond .ne 5) 5 := by decide +kernel
theorem kX3_nextChoice_13 : zD cX3_nextChoice 13 14 (.iload_n 1) 1 := by decide +kernel
theorem kX3_nextChoice_14 : zD cX3_nextChoice 14 15 (.ireturn) 1 := by decide +kernel
theorem kX3_nextChoice_15 : zD cX3_nextChoice 15 16 (.iload_n 0) 1 := by decide +kernel
theorem kX3_nextChoice_16 : zD cX3_nextChoice 16 17 (.iload_n 0) 1 := by decide +kernel
theorem kX3_nextChoice_17 : zD cX3_nextChoice 17 18 (.ineg) 1 := by decide +kernel
theorem kX3_nextChoice_18 : zD cX3_nextChoice 18 19 (.iand) 1 := by decide +kernel
theorem kX3_nextChoice_19 : zD cX3_nextChoice 19 20 (.istore_n 2) 1 := by decide +kernel
theorem kX3_nextChoice_20 : zD cX3_nextChoice 20 21 (.iload_n 0) 1 := by decide +kernel
theorem kX3_nextChoice_21 : zD cX3_nextChoice 21 22 (.iload_n 2) 1 := by decide +kernel
theorem kX3_nextChoice_22 : zD cX3_nextChoice 22 23 (.iadd) 1 := by decide +kernel
theorem kX3_nextChoice_23 : zD cX3_nextChoice 23 24 (.istore_n 3) 1 := by decide +kernel
theorem kX3_nextChoice_24 : zD cX3_nextChoice 24 25 (.iload_n 0) 1 := by decide +kernel
theorem kX3_nextChoice_25 : zD cX3_nextChoice 25 26 (.iload_n 3) 1 := by decide +kernel
theorem kX3_nextChoice_26 : zD cX3_nextChoice 26 27 (.ixor) 1 := by decide +kernel
theorem kX3_nextChoice_27 : zD cX3_nextChoice 27 28 (.iconst 2) 1 := by decide +kernel
theorem kX3_nextChoice_28 : zD cX3_nextChoice 28 29 (.iload_n 2) 1 := by decide +kernel
theorem kX3_nextChoice_29 : zD cX3_nextChoice 29 30 (.iconst 1) 1 := by decide +kernel
theorem kX3_nextChoice_30 : zD cX3_nextChoice 30 31 (.isub) 1 := by decide +kernel
theorem kX3_nextChoice_31 : zD cX3_nextChoice 31 34 (.invokestatic 56) 3 := by decide +kernel
theorem kX3_nextChoice_34 : zD cX3_nextChoice 34 35 (.iadd) 1 := by decide +kernel
theorem kX3_nextChoice_35 : zD cX3_nextChoice 35 36 (.iushr) 1 := by decide +kernel
theorem kX3_nextChoice_36 : zD cX3_nextChoice 36 38 (.istore 4) 2 := by decide +kernel
theorem kX3_nextChoice_38 : zD cX3_nextChoice 38 39 (.iload_n 3) 1 := by decide +kernel
theorem kX3_nextChoice_39 : zD cX3_nextChoice 39 41 (.iload 4) 2 := by decide +kernel
theorem kX3_nextChoice_41 : zD cX3_nextChoice 41 42 (.ior) 1 := by decide +kernel
theorem kX3_nextChoice_42 : zD cX3_nextChoice 42 45 (.sipush 4095) 3 := by decide +kernel
theorem kX3_nextChoice_45 : zB cX3_nextChoice 45 48 55 (.if_icmp .gt 10) 10 := by decide +kernel
theorem kX3_nextChoice_48 : zD cX3_nextChoice 48 49 (.iload_n 3) 1 := by decide +kernel
theorem kX3_nextChoice_49 : zD cX3_nextChoice 49 51 (.iload 4) 2 := by decide +kernel
theorem kX3_nextChoice_51 : zD cX3_nextChoice 51 52 (.ior) 1 := by decide +kernel
theorem kX3_nextChoice_52 : zB cX3_nextChoice 52 55 56 (.goto 4) 4 := by decide +kernel
theorem kX3_nextChoice_55 : zD cX3_nextChoice 55 56 (.iload_n 1) 1 := by decide +kernel
theorem kX3_nextChoice_56 : zD cX3_nextChoice 56 57 (.ireturn) 1 := by decide +kernel
set_option maxRecDepth 10000 in
theorem wX3_nextChoice_0 {G : ZG} {d : Nat} {h : ZH} {Q : Option ZV → ZH → Prop} {x0 : Int32} 
  (H : (¬ x0 = 0 → ∀ y1 : Int32, y1 = ((((x0 ^^^ (x0 + (x0 &&& (-x0))))).toUInt32 >>> (((2 + (bcI ((x0 &&& (-x0)) - 1))) : Int32).toUInt32 &&& Int32.toUInt32 31)).toInt32) → (4095 < ((x0 + (x0 &&& (-x0))) ||| y1) → Q (some (zi (((2 : Int32) <<< ((bcI x0) &&& 31)) - 1))) h) ∧ (¬ 4095 < ((x0 + (x0 &&& (-x0))) ||| y1) → Q (some (zi ((x0 + (x0 &&& (-x0))) ||| y1))) h)) ∧ (x0 = 0 → Q (some (zi (((2 : Int32) <<< ((bcI x0) &&& 31)) - 1))) h)) :
  zT G (d + 2) mX3_nextChoice 0 [zi x0, zu, zu, zu, zu] [] h Q := by
  refine zt_iconst (v := 2) kX3_nextChoice_0 rfl ?_
  refine zt_iload_n kX3_nextChoice_1 rfl ?_
  refine zt_cS (as := [zi x0]) kX3_nextChoice_2 sRX3_56 rfl (by simp) rfl (sJ6_bitCount_0f7a4 _  ) (fun r h0 hq => ?_)
  obtain ⟨rfl, hh⟩ := hq
  replace hh := hh.symm
  subst hh
  refine zt_ishl kX3_nextChoice_5 ?_
  refine zt_iconst (v := 1) kX3_nextChoice_6 rfl ?_
  refine zt_isub kX3_nextChoice_7 ?_
  refine zt_istore_n (L' := [zi x0, zi (((2 : Int32) <<< ((bcI x0) &&& 31)) - 1), zu, zu, zu]) kX3_nextChoice_8 (by decide) rfl ?_
  refine zt_iload_n kX3_nextChoice_9 rfl ?_
  refine zt_if_ne kX3_nextChoice_10 (fun c => ?_) (fun c => ?_)
  · replace H := H.1 c
    refine zt_iload_n kX3_nextChoice_15 rfl ?_
    refine zt_iload_n kX3_nextChoice_16 rfl ?_
    refine zt_ineg kX3_nextChoice_17 ?_
    refine zt_iand kX3_nextChoice_18 ?_
    refine zt_istore_n (L' := [zi x0, zi (((2 : Int32) <<< ((bcI x0) &&& 31)) - 1), zi (x0 &&& (-x0)), zu, zu]) kX3_nextChoice_19 (by decide) rfl ?_
    refine zt_iload_n kX3_nextChoice_20 rfl ?_
    refine zt_iload_n kX3_nextChoice_21 rfl ?_
    refine zt_iadd kX3_nextChoice_22 ?_
    refine zt_istore_n (L' := [zi x0, zi (((2 : Int32) <<< ((bcI x0) &&& 31)) - 1), zi (x0 &&& (-x0)), zi (x0 + (x0 &&& (-x0))), zu]) kX3_nextChoice_23 (by decide) rfl ?_
    refine zt_iload_n kX3_nextChoice_24 rfl ?_
    refine zt_iload_n kX3_nextChoice_25 rfl ?_
    refine zt_ixor kX3_nextChoice_26 ?_
    refine zt_iconst (v := 2) kX3_nextChoice_27 rfl ?_
    refine zt_iload_n kX3_nextChoice_28 rfl ?_
    refine zt_iconst (v := 1) kX3_nextChoice_29 rfl ?_
    refine zt_isub kX3_nextChoice_30 ?_
    refine zt_cS (as := [zi ((x0 &&& (-x0)) - 1)]) kX3_nextChoice_31 sRX3_56 rfl (by simp) rfl (sJ6_bitCount_0f7a4 _  ) (fun r h0 hq => ?_)
    obtain ⟨rfl, hh⟩ := hq
    replace hh := hh.symm
    subst hh
    refine zt_iadd kX3_nextChoice_34 ?_
    refine zt_iushr kX3_nextChoice_35 ?_
    refine zt_topi (fun y1 ey1 => ?_)
    replace H := H y1 ey1
    refine zt_istore (L' := [zi x0, zi (((2 : Int32) <<< ((bcI x0) &&& 31)) - 1), zi (x0 &&& (-x0)), zi (x0 + (x0 &&& (-x0))), zi y1]) kX3_nextChoice_36 (by decide) rfl ?_
    refine zt_iload_n kX3_nextChoice_38 rfl ?_
    refine zt_iload kX3_nextChoice_39 rfl ?_
    refine zt_ior kX3_nextChoice_41 ?_
    refine zt_sipush (v := 4095) kX3_nextChoice_42 rfl ?_
    refine zt_icmp_gt kX3_nextChoice_45 (fun c => ?_) (fun c => ?_)
    · replace H := H.1 c
      refine zt_iload_n kX3_nextChoice_55 rfl ?_
      exact zt_iret kX3_nextChoice_56 rfl H
    · replace H := H.2 c
      refine zt_iload_n kX3_nextChoice_48 rfl ?_
      refine zt_iload kX3_nextChoice_49 rfl ?_
      refine zt_ior kX3_nextChoice_51 ?_
      refine zt_goto kX3_nextChoice_52 ?_
      exact zt_iret kX3_nextChoice_56 rfl H
  · replace H := H.2 c
    refine zt_iload_n kX3_nextChoice_13 rfl ?_
    exact zt_iret kX3_nextChoice_14 rfl H

theorem kX0_weight_0 : zD cX0_weight 0 1 (.aload_n 0) 1 := by decide +kernel
theorem kX0_weight_1 : zD cX0_weight 1 2 (.iload_n 1) 1 := by decide +kernel
theorem kX0_weight_2 : zD cX0_weight 2 5 (.invokespecial 9) 3 := by decide +kernel
theorem kX0_weight_5 : zD cX0_weight 5 6 (.iconst 1) 1 := by decide +kernel
theorem kX0_weight_6 : zD cX0_weight 6 7 (.isub) 1 := by decide +kernel
theorem kX0_weight_7 : zD cX0_weight 7 8 (.ireturn) 1 := by decide +kernel
set_option maxRecDepth 10000 in
theorem wX0_weight_0 {G : ZG} {d : Nat} {h : ZH} {Q : Option ZV → ZH → Prop} {i0 : Nat} {x1 : Int32} (hi0 : i0 < zcnt 4)
  (H : Q (some (zi ((2 + x1) - 1))) h) :
  zT G (d + 2) mX0_weight 0 [zr 4 i0, zi x1] [] h Q := by
  refine zt_aload_n kX0_weight_0 rfl ?_
  refine zt_iload_n kX0_weight_1 rfl ?_
  refine zt_cU (as := [zi x1]) kX0_weight_2 sRX0_9 (zcl4 hi0) rfl hi0 rfl (by simp) rfl (sX10_weight _ hi0 ) (fun r h0 hq => ?_)
  obtain ⟨rfl, hh⟩ := hq
  replace hh := hh.symm
  subst hh
  refine zt_iconst (v := 1) kX0_weight_5 rfl ?_
  refine zt_isub kX0_weight_6 ?_
  exact zt_iret kX0_weight_7 rfl H

theorem kX0_bears_0 : zD cX0_bears 0 1 (.aload_n 0) 1 := by decide +kernel
theorem kX0_bears_1 : zD cX0_bears 1 2 (.iload_n 1) 1 := by decide +kernel
theorem kX0_bears_2 : zD cX0_bears 2 5 (.invokespecial 13) 3 := by decide +kernel
theorem kX0_bears_5 : zD cX0_bears 5 7 (.bipush 8) 2 := by decide +kernel
theorem kX0_bears_7 : zD cX0_bears 7 8 (.isub) 1 := by decide +kernel
theorem kX0_bears_8 : zD cX0_bears 8 9 (.ireturn) 1 := by decide +kernel
set_option maxRecDepth 10000 in
theorem wX0_bears_0 {G : ZG} {d : Nat} {h : ZH} {Q : Option ZV → ZH → Prop} {i0 : Nat} {x1 : Int32} (hi0 : i0 < zcnt 4)
  (H : Q (some (zi ((20) - 8))) h) :
  zT G (d + 2) mX0_bears 0 [zr 4 i0, zi x1] [] h Q := by
  refine zt_aload_n kX0_bears_0 rfl ?_
  refine zt_iload_n kX0_bears_1 rfl ?_
  refine zt_cU (as := [zi x1]) kX0_bears_2 sRX0_13 (zcl4 hi0) rfl hi0 rfl (by simp) rfl (sX10_bears _ hi0 ) (fun r h0 hq => ?_)
  obtain ⟨rfl, hh⟩ := hq
  replace hh := hh.symm
  subst hh
  refine zt_bipush (v := 8) kX0_bears_5 rfl ?_
  refine zt_isub kX0_bears_7 ?_
  exact zt_iret kX0_bears_8 rfl H

theorem kX0_price_0 : zD cX0_price 0 1 (.aload_n 0) 1 := by decide +kernel
theorem kX0_price_1 : zD cX0_price 1 2 (.iload_n 1) 1 := by decide +kernel
theorem kX0_price_2 : zD cX0_price 2 5 (.invokespecial 16) 3 := by decide +kernel
theorem kX0_price_5 : zD cX0_price 5 6 (.iconst 3) 1 := by decide +kernel
theorem kX0_price_6 : zD cX0_price 6 7 (.iadd) 1 := by decide +kernel
theorem kX0_price_7 : zD cX0_price 7 8 (.ireturn) 1 := by decide +kernel
set_option maxRecDepth 10000 in
theorem wX0_price_0 {G : ZG} {d : Nat} {h : ZH} {Q : Option ZV → ZH → Prop} {i0 : Nat} {x1 : Int32} (hi0 : i0 < zcnt 4)
  (H : Q (some (zi ((2) + 3))) h) :
  zT G (d + 2) mX0_price 0 [zr 4 i0, zi x1] [] h Q := by
  refine zt_aload_n kX0_price_0 rfl ?_
  refine zt_iload_n kX0_price_1 rfl ?_
  refine zt_cU (as := [zi x1]) kX0_price_2 sRX0_16 (zcl4 hi0) rfl hi0 rfl (by simp) rfl (sX10_price _ hi0 ) (fun r h0 hq => ?_)
  obtain ⟨rfl, hh⟩ := hq
  replace hh := hh.symm
  subst hh
  refine zt_iconst (v := 3) kX0_price_5 rfl ?_
  refine zt_iadd kX0_price_6 ?_
  exact zt_iret kX0_price_7 rfl H

theorem kX2_weight_0 : zD cX2_weight 0 1 (.aload_n 0) 1 := by decide +kernel
theorem kX2_weight_1 : zD cX2_weight 1 2 (.iload_n 1) 1 := by decide +kernel
theorem kX2_weight_2 : zD cX2_weight 2 5 (.invokespecial 7) 3 := by decide +kernel
theorem kX2_weight_5 : zD cX2_weight 5 6 (.iconst 3) 1 := by decide +kernel
theorem kX2_weight_6 : zD cX2_weight 6 7 (.iadd) 1 := by decide +kernel
theorem kX2_weight_7 : zD cX2_weight 7 8 (.ireturn) 1 := by decide +kernel
set_option maxRecDepth 10000 in
theorem wX2_weight_0 {G : ZG} {d : Nat} {h : ZH} {Q : Option ZV → ZH → Prop} {i0 : Nat} {x1 : Int32} (hi0 : i0 < zcnt 4)
  (H : Q (some (zi ((2 + x1) + 3))) h) :
  zT G (d + 2) mX2_weight 0 [zr 4 i0, zi x1] [] h Q := by
  refine zt_aload_n kX2_weight_0 rfl ?_
  refine zt_iload_n kX2_weight_1 rfl ?_
  refine zt_cU (as := [zi x1]) kX2_weight_2 sRX2_7 (zcl4 hi0) rfl hi0 rfl (by simp) rfl (sX10_weight _ hi0 ) (fun r h0 hq => ?_)
  obtain ⟨rfl, hh⟩ := hq
  replace hh := hh.symm
  subst hh
  refine zt_iconst (v := 3) kX2_weight_5 rfl ?_
  refine zt_iadd kX2_weight_6 ?_
  exact zt_iret kX2_weight_7 rfl H

theorem kX2_bears_0 : zD cX2_bears 0 1 (.iconst 2) 1 := by decide +kernel
theorem kX2_bears_1 : zD cX2_bears 1 2 (.aload_n 0) 1 := by decide +kernel
theorem kX2_bears_2 : zD cX2_bears 2 3 (.iload_n 1) 1 := by decide +kernel
theorem kX2_bears_3 : zD cX2_bears 3 6 (.invokespecial 11) 3 := by decide +kernel
theorem kX2_bears_6 : zD cX2_bears 6 7 (.imul) 1 := by decide +kernel
theorem kX2_bears_7 : zD cX2_bears 7 8 (.ireturn) 1 := by decide +kernel
set_option maxRecDepth 10000 in
theorem wX2_bears_0 {G : ZG} {d : Nat} {h : ZH} {Q : Option ZV → ZH → Prop} {i0 : Nat} {x1 : Int32} (hi0 : i0 < zcnt 4)
  (H : Q (some (zi (2 * (20)))) h) :
  zT G (d + 2) mX2_bears 0 [zr 4 i0, zi x1] [] h Q := by
  refine zt_iconst (v := 2) kX2_bears_0 rfl ?_
  refine zt_aload_n kX2_bears_1 rfl ?_
  refine zt_iload_n kX2_bears_2 rfl ?_
  refine zt_cU (as := [zi x1]) kX2_bears_3 sRX2_11 (zcl4 hi0) rfl hi0 rfl (by simp) rfl (sX10_bears _ hi0 ) (fun r h0 hq => ?_)
  obtain ⟨rfl, hh⟩ := hq
  replace hh := hh.symm
  subst hh
  refine zt_imul kX2_bears_6 ?_
  exact zt_iret kX2_bears_7 rfl H

theorem kX2_price_0 : zD cX2_price 0 1 (.aload_n 0) 1 := by decide +kernel
theorem kX2_price_1 : zD cX2_price 1 2 (.iload_n 1) 1 := by decide +kernel
theorem kX2_price_2 : zD cX2_price 2 5 (.invokespecial 14) 3 := by decide +kernel
theorem kX2_price_5 : zD cX2_price 5 6 (.iload_n 1) 1 := by decide +kernel
theorem kX2_price_6 : zD cX2_price 6 7 (.iadd) 1 := by decide +kernel
theorem kX2_price_7 : zD cX2_price 7 8 (.ireturn) 1 := by decide +kernel
set_option maxRecDepth 10000 in
theorem wX2_price_0 {G : ZG} {d : Nat} {h : ZH} {Q : Option ZV → ZH → Prop} {i0 : Nat} {x1 : Int32} (hi0 : i0 < zcnt 4)
  (H : Q (some (zi ((2) + x1))) h) :
  zT G (d + 2) mX2_price 0 [zr 4 i0, zi x1] [] h Q := by
  refine zt_aload_n kX2_price_0 rfl ?_
  refine zt_iload_n kX2_price_1 rfl ?_
  refine zt_cU (as := [zi x1]) kX2_price_2 sRX2_14 (zcl4 hi0) rfl hi0 rfl (by simp) rfl (sX10_price _ hi0 ) (fun r h0 hq => ?_)
  obtain ⟨rfl, hh⟩ := hq
  replace hh := hh.symm
  subst hh
  refine zt_iload_n kX2_price_5 rfl ?_
  refine zt_iadd kX2_price_6 ?_
  exact zt_iret kX2_price_7 rfl H

theorem kX7_price_0 : zD cX7_price 0 1 (.aload_n 0) 1 := by decide +kernel
theorem kX7_price_1 : zD cX7_price 1 2 (.iload_n 1) 1 := by decide +kernel
theorem kX7_price_2 : zD cX7_price 2 5 (.invokespecial 9) 3 := by decide +kernel
theorem kX7_price_5 : zD cX7_price 5 6 (.iconst 1) 1 := by decide +kernel
theorem kX7_price_6 : zD cX7_price 6 7 (.isub) 1 := by decide +kernel
theorem kX7_price_7 : zD cX7_price 7 8 (.ireturn) 1 := by decide +kernel
set_option maxRecDepth 10000 in
theorem wX7_price_0 {G : ZG} {d : Nat} {h : ZH} {Q : Option ZV → ZH → Prop} {i0 : Nat} {x1 : Int32} (hi0 : i0 < zcnt 4)
  (H : Q (some (zi ((2) - 1))) h) :
  zT G (d + 2) mX7_price 0 [zr 4 i0, zi x1] [] h Q := by
  refine zt_aload_n kX7_price_0 rfl ?_
  refine zt_iload_n kX7_price_1 rfl ?_
  refine zt_cU (as := [zi x1]) kX7_price_2 sRX7_9 (zcl4 hi0) rfl hi0 rfl (by simp) rfl (sX10_price _ hi0 ) (fun r h0 hq => ?_)
  obtain ⟨rfl, hh⟩ := hq
  replace hh := hh.symm
  subst hh
  refine zt_iconst (v := 1) kX7_price_5 rfl ?_
  refine zt_isub kX7_price_6 ?_
  exact zt_iret kX7_price_7 rfl H

theorem kX11_rowRefused_0 : zD cX11_rowRefused 0 1 (.iload_n 1) 1 := by decide +kernel
theorem kX11_rowRefused_1 : zD cX11_rowRefused 1 4 (.invokestatic 282) 3 := by decide +kernel
theorem kX11_rowRefused_4 : zB cX11_rowRefused 4 7 9 (.ifCond .ne 5) 5 := by decide +kernel
theorem kX11_rowRefused_7 : zD cX11_rowRefused 7 8 (.iconst (-1)) 1 := by decide +kernel
theorem kX11_rowRefused_8 : zD cX11_rowRefused 8 9 (.ireturn) 1 := by decide +kernel
theorem kX11_rowRefused_9 : zD cX11_rowRefused 9 10 (.aload_n 0) 1 := by decide +kernel
theorem kX11_rowRefused_10 : zD cX11_rowRefused 10 13 (.getfield 62) 3 := by decide +kernel
theorem kX11_rowRefused_13 : zD cX11_rowRefused 13 14 (.iload_n 1) 1 := by decide +kernel
theorem kX11_rowRefused_14 : zD cX11_rowRefused 14 15 (.aaload) 1 := by decide +kernel
theorem kX11_rowRefused_15 : zD cX11_rowRefused 15 18 (.invokevirtual 319) 3 := by decide +kernel
theorem kX11_rowRefused_18 : zB cX11_rowRefused 18 21 24 (.ifCond .eq 6) 6 := by decide +kernel
theorem kX11_rowRefused_21 : zD cX11_rowRefused 21 23 (.bipush (-11)) 2 := by decide +kernel
theorem kX11_rowRefused_23 : zD cX11_rowRefused 23 24 (.ireturn) 1 := by decide +kernel
theorem kX11_rowRefused_24 : zD cX11_rowRefused 24 25 (.aload_n 0) 1 := by decide +kernel
theorem kX11_rowRefused_25 : zD cX11_rowRefused 25 28 (.getfield 62) 3 := by decide +kernel
theorem kX11_rowRefused_28 : zD cX11_rowRefused 28 29 (.iload_n 1) 1 := by decide +kernel
theorem kX11_rowRefused_29 : zD cX11_rowRefused 29 30 (.aaload) 1 := by decide +kernel
theorem kX11_rowRefused_30 : zD cX11_rowRefused 30 33 (.invokevirtual 308) 3 := by decide +kernel
theorem kX11_rowRefused_33 : zB cX11_rowRefused 33 36 40 (.ifCond .eq 7) 7 := by decide +kernel
theorem kX11_rowRefused_36 : zD cX11_rowRefused 36 37 (.iconst 0) 1 := by decide +kernel
theorem kX11_rowRefused_37 : zB cX11_rowRefused 37 40 42 (.goto 5) 5 := by decide +kernel
theorem kX11_rowRefused_40 : zD cX11_rowRefused 40 42 (.bipush (-12)) 2 := by decide +kernel
theorem kX11_rowRefused_42 : zD cX11_rowRefused 42 43 (.ireturn) 1 := by decide +kernel
set_option maxRecDepth 10000 in
theorem wX11_rowRefused_0 {G : ZG} {d : Nat} {h : ZH} {Q : Option ZV → ZH → Prop} {x1 : Int32} 
  (H : ((0 ≤ x1 ∧ x1 ≤ 7) → vp_in x1 8 ∧ (¬ (h.1 3 (x1.toNatClampNeg) 0 = 0) → vp_in x1 8 ∧ (¬ (h.1 3 (x1.toNatClampNeg) 0 = 2) → Q (some (zi (-12))) h) ∧ ((h.1 3 (x1.toNatClampNeg) 0 = 2) → Q (some (zi 0)) h)) ∧ ((h.1 3 (x1.toNatClampNeg) 0 = 0) → Q (some (zi (-11))) h)) ∧ (¬ (0 ≤ x1 ∧ x1 ≤ 7) → Q (some (zi (-1))) h)) :
  zT G (d + 2) mX11_rowRefused 0 [zr 0 0, zi x1] [] h Q := by
  refine zt_iload_n kX11_rowRefused_0 rfl ?_
  refine zt_cS (as := [zi x1]) kX11_rowRefused_1 sRX11_282 rfl (by simp) rfl (sX11_isShelf _  ) (fun r h0 hq => ?_)
  obtain ⟨rfl, hh⟩ := hq
  replace hh := hh.symm
  subst hh
  refine zt_ifb_ne kX11_rowRefused_4 (fun c => ?_) (fun c => ?_)
  · replace H := H.1 c
    refine zt_aload_n kX11_rowRefused_9 rfl ?_
    refine zt_get (v := zr 22 0) kX11_rowRefused_10 fRX11_62 rfl (by decide) rfl ?_
    refine zt_iload_n kX11_rowRefused_13 rfl ?_
    obtain ⟨hv1, H⟩ := H
    refine zt_aaldH kX11_rowRefused_14 hv1 ?_
    refine zt_cV (as := []) kX11_rowRefused_15 sRX11_319 rfl (zok3 hv1) rfl (by simp) rfl (sX8_isEmpty _ (zok3 hv1) ) (fun r h0 hq => ?_)
    obtain ⟨rfl, hh⟩ := hq
    replace hh := hh.symm
    subst hh
    refine zt_ifb_eq kX11_rowRefused_18 (fun c => ?_) (fun c => ?_)
    · replace H := H.1 c
      refine zt_aload_n kX11_rowRefused_24 rfl ?_
      refine zt_get (v := zr 22 0) kX11_rowRefused_25 fRX11_62 rfl (by decide) rfl ?_
      refine zt_iload_n kX11_rowRefused_28 rfl ?_
      obtain ⟨hv2, H⟩ := H
      refine zt_aaldH kX11_rowRefused_29 hv2 ?_
      refine zt_cV (as := []) kX11_rowRefused_30 sRX11_308 rfl (zok3 hv2) rfl (by simp) rfl (sX8_isRow _ (zok3 hv2) ) (fun r h0 hq => ?_)
      obtain ⟨rfl, hh⟩ := hq
      replace hh := hh.symm
      subst hh
      refine zt_ifb_eq kX11_rowRefused_33 (fun c => ?_) (fun c => ?_)
      · replace H := H.1 c
        refine zt_bipush (v := (-12)) kX11_rowRefused_40 rfl ?_
        exact zt_iret kX11_rowRefused_42 rfl H
      · replace H := H.2 c
        refine zt_iconst (v := 0) kX11_rowRefused_36 rfl ?_
        refine zt_goto kX11_rowRefused_37 ?_
        exact zt_iret kX11_rowRefused_42 rfl H
    · replace H := H.2 c
      refine zt_bipush (v := (-11)) kX11_rowRefused_21 rfl ?_
      exact zt_iret kX11_rowRefused_23 rfl H
  · replace H := H.2 c
    refine zt_iconst (v := (-1)) kX11_rowRefused_7 rfl ?_
    exact zt_iret kX11_rowRefused_8 rfl H

theorem kX11_kindRefused_0 : zD cX11_kindRefused 0 1 (.iload_n 1) 1 := by decide +kernel
theorem kX11_kindRefused_1 : zD cX11_kindRefused 1 4 (.invokestatic 282) 3 := by decide +kernel
theorem kX11_kindRefused_4 : zB cX11_kindRefused 4 7 9 (.ifCond .ne 5) 5 := by decide +kernel
theorem kX11_kindRefused_7 : zD cX11_kindRefused 7 8 (.iconst (-1)) 1 := by decide +kernel
theorem kX11_kindRefused_8 : zD cX11_kindRefused 8 9 (.ireturn) 1 := by decide +kernel
theorem kX11_kindRefused_9 : zD cX11_kindRefused 9 10 (.aload_n 0) 1 := by decide +kernel
theorem kX11_kindRefused_10 : zD cX11_kindRefused 10 13 (.getfield 62) 3 := by decide +kernel
theorem kX11_kindRefused_13 : zD cX11_kindRefused 13 14 (.iload_n 1) 1 := by decide +kernel
theorem kX11_kindRefused_14 : zD cX11_kindRefused 14 15 (.aaload) 1 := by decide +kernel
theorem kX11_kindRefused_15 : zD cX11_kindRefused 15 18 (.invokevirtual 319) 3 := by decide +kernel
theorem kX11_kindRefused_18 : zB cX11_kindRefused 18 21 24 (.ifCond .eq 6) 6 := by decide +kernel
theorem kX11_kindRefused_21 : zD cX11_kindRefused 21 23 (.bipush (-11)) 2 := by decide +kernel
theorem kX11_kindRefused_23 : zD cX11_kindRefused 23 24 (.ireturn) 1 := by decide +kernel
theorem kX11_kindRefused_24 : zD cX11_kindRefused 24 25 (.aload_n 0) 1 := by decide +kernel
theorem kX11_kindRefused_25 : zD cX11_kindRefused 25 28 (.getfield 62) 3 := by decide +kernel
theorem kX11_kindRefused_28 : zD cX11_kindRefused 28 29 (.iload_n 1) 1 := by decide +kernel
theorem kX11_kindRefused_29 : zD cX11_kindRefused 29 30 (.aaload) 1 := by decide +kernel
theorem kX11_kindRefused_30 : zD cX11_kindRefused 30 33 (.invokevirtual 308) 3 := by decide +kernel
theorem kX11_kindRefused_33 : zB cX11_kindRefused 33 36 41 (.ifCond .eq 8) 8 := by decide +kernel
theorem kX11_kindRefused_36 : zD cX11_kindRefused 36 38 (.bipush (-12)) 2 := by decide +kernel
theorem kX11_kindRefused_38 : zB cX11_kindRefused 38 41 42 (.goto 4) 4 := by decide +kernel
theorem kX11_kindRefused_41 : zD cX11_kindRefused 41 42 (.iconst 0) 1 := by decide +kernel
theorem kX11_kindRefused_42 : zD cX11_kindRefused 42 43 (.ireturn) 1 := by decide +kernel
set_option maxRecDepth 10000 in
theorem wX11_kindRefused_0 {G : ZG} {d : Nat} {h : ZH} {Q : Option ZV → ZH → Prop} {x1 : Int32} 
  (H : ((0 ≤ x1 ∧ x1 ≤ 7) → vp_in x1 8 ∧ (¬ (h.1 3 (x1.toNatClampNeg) 0 = 0) → vp_in x1 8 ∧ (¬ (h.1 3 (x1.toNatClampNeg) 0 = 2) → Q (some (zi 0)) h) ∧ ((h.1 3 (x1.toNatClampNeg) 0 = 2) → Q (some (zi (-12))) h)) ∧ ((h.1 3 (x1.toNatClampNeg) 0 = 0) → Q (some (zi (-11))) h)) ∧ (¬ (0 ≤ x1 ∧ x1 ≤ 7) → Q (some (zi (-1))) h)) :
  zT G (d + 2) mX11_kindRefused 0 [zr 0 0, zi x1] [] h Q := by
  refine zt_iload_n kX11_kindRefused_0 rfl ?_
  refine zt_cS (as := [zi x1]) kX11_kindRefused_1 sRX11_282 rfl (by simp) rfl (sX11_isShelf _  ) (fun r h0 hq => ?_)
  obtain ⟨rfl, hh⟩ := hq
  replace hh := hh.symm
  subst hh
  refine zt_ifb_ne kX11_kindRefused_4 (fun c => ?_) (fun c => ?_)
  · replace H := H.1 c
    refine zt_aload_n kX11_kindRefused_9 rfl ?_
    refine zt_get (v := zr 22 0) kX11_kindRefused_10 fRX11_62 rfl (by decide) rfl ?_
    refine zt_iload_n kX11_kindRefused_13 rfl ?_
    obtain ⟨hv1, H⟩ := H
    refine zt_aaldH kX11_kindRefused_14 hv1 ?_
    refine zt_cV (as := []) kX11_kindRefused_15 sRX11_319 rfl (zok3 hv1) rfl (by simp) rfl (sX8_isEmpty _ (zok3 hv1) ) (fun r h0 hq => ?_)
    obtain ⟨rfl, hh⟩ := hq
    replace hh := hh.symm
    subst hh
    refine zt_ifb_eq kX11_kindRefused_18 (fun c => ?_) (fun c => ?_)
    · replace H := H.1 c
      refine zt_aload_n kX11_kindRefused_24 rfl ?_
      refine zt_get (v := zr 22 0) kX11_kindRefused_25 fRX11_62 rfl (by decide) rfl ?_
      refine zt_iload_n kX11_kindRefused_28 rfl ?_
      obtain ⟨hv2, H⟩ := H
      refine zt_aaldH kX11_kindRefused_29 hv2 ?_
      refine zt_cV (as := []) kX11_kindRefused_30 sRX11_308 rfl (zok3 hv2) rfl (by simp) rfl (sX8_isRow _ (zok3 hv2) ) (fun r h0 hq => ?_)
      obtain ⟨rfl, hh⟩ := hq
      replace hh := hh.symm
      subst hh
      refine zt_ifb_eq kX11_kindRefused_33 (fun c => ?_) (fun c => ?_)
      · replace H := H.1 c
        refine zt_iconst (v := 0) kX11_kindRefused_41 rfl ?_
        exact zt_iret kX11_kindRefused_42 rfl H
      · replace H := H.2 c
        refine zt_bipush (v := (-12)) kX11_kindRefused_36 rfl ?_
        refine zt_goto kX11_kindRefused_38 ?_
        exact zt_iret kX11_kindRefused_42 rfl H
    · replace H := H.2 c
      refine zt_bipush (v := (-11)) kX11_kindRefused_21 rfl ?_
      exact zt_iret kX11_kindRefused_23 rfl H
  · replace H := H.2 c
    refine zt_iconst (v := (-1)) kX11_kindRefused_7 rfl ?_
    exact zt_iret kX11_kindRefused_8 rfl H

