/-! ===== the bytecode of these methods, walked (by program): X12_isLeft X12_isRight X12_isClinging X12_noteOf X12_wrongKept X12_wrongRow X12_wrongStone X11_stoneRefused X11_digitAt X5_weight X5_bears X5_price X9_bears X9_price X1_weight X1_bears X1_price ===== -/
theorem kX12_isLeft_0 : zD cX12_isLeft 0 1 (.iload_n 1) 1 := by decide +kernel
theorem kX12_isLeft_1 : zD cX12_isLeft 1 2 (.iload_n 2) 1 := by decide +kernel
theorem kX12_isLeft_2 : zD cX12_isLeft 2 3 (.iconst 4) 1 := by decide +kernel
theorem kX12_isLeft_3 : zD cX12_isLeft 3 4 (.idiv) 1 := by decide +kernel
theorem kX12_isLeft_4 : zD cX12_isLeft 4 5 (.iconst 1) 1 := by decide +kernel
theorem kX12_isLeft_5 : zD cX12_isLeft 5 6 (.isub) 1 := by decide +kernel
theorem kX12_isLeft_6 : zD cX12_isLeft 6 7 (.iload_n 2) 1 := by decide +kernel
theorem kX12_isLeft_7 : zD cX12_isLeft 7 8 (.iconst 4) 1 := by decide +kernel
theorem kX12_isLeft_8 : zD cX12_isLeft 8 9 (.irem) 1 := by decide +kernel
theorem kX12_isLeft_9 : zD cX12_isLeft 9 10 (.iconst 1) 1 := by decide +kernel
theorem kX12_isLeft_10 : zD cX12_isLeft 10 11 (.isub) 1 := by decide +kernel
theorem kX12_isLeft_11 : zD cX12_isLeft 11 14 (.invokestatic 68) 3 := by decide +kernel
theorem kX12_isLeft_14 : zD cX12_isLeft 14 15 (.ireturn) 1 := by decide +kernel
set_option maxRecDepth 10000 in
theorem wX12_isLeft_0 {G : ZG} {d : Nat} {h : ZH} {Q : Option ZV → ZH → Prop} {x1 : Int32} {x2 : Int32} 
  (H : Q (some (zi (zb (atI x1 ((x2 / 4) - 1) ((x2 - x2 / 4 * 4) - 1))))) h) :
  zT G (d + 3) mX12_isLeft 0 [zr 5 0, zi x1, zi x2] [] h Q := by
  refine zt_iload_n kX12_isLeft_0 rfl ?_
  refine zt_iload_n kX12_isLeft_1 rfl ?_
  refine zt_iconst (v := 4) kX12_isLeft_2 rfl ?_
  refine zt_idiv kX12_isLeft_3 (by decide) ?_
  refine zt_iconst (v := 1) kX12_isLeft_4 rfl ?_
  refine zt_isub kX12_isLeft_5 ?_
  refine zt_iload_n kX12_isLeft_6 rfl ?_
  refine zt_iconst (v := 4) kX12_isLeft_7 rfl ?_
  refine zt_irem kX12_isLeft_8 (by decide) ?_
  refine zt_iconst (v := 1) kX12_isLeft_9 rfl ?_
  refine zt_isub kX12_isLeft_10 ?_
  refine zt_cS (as := [zi x1, zi ((x2 / 4) - 1), zi ((x2 - x2 / 4 * 4) - 1)]) kX12_isLeft_11 sRX12_68 rfl (by simp) rfl (sX12_isAt _  ) (fun r h0 hq => ?_)
  obtain ⟨rfl, hh⟩ := hq
  replace hh := hh.symm
  subst hh
  exact zt_zret kX12_isLeft_14 rfl (zb_01 _) H

theorem kX12_isRight_0 : zD cX12_isRight 0 1 (.iload_n 1) 1 := by decide +kernel
theorem kX12_isRight_1 : zD cX12_isRight 1 2 (.iload_n 2) 1 := by decide +kernel
theorem kX12_isRight_2 : zD cX12_isRight 2 3 (.iconst 4) 1 := by decide +kernel
theorem kX12_isRight_3 : zD cX12_isRight 3 4 (.idiv) 1 := by decide +kernel
theorem kX12_isRight_4 : zD cX12_isRight 4 5 (.iconst 1) 1 := by decide +kernel
theorem kX12_isRight_5 : zD cX12_isRight 5 6 (.isub) 1 := by decide +kernel
theorem kX12_isRight_6 : zD cX12_isRight 6 7 (.iload_n 2) 1 := by decide +kernel
theorem kX12_isRight_7 : zD cX12_isRight 7 8 (.iconst 4) 1 := by decide +kernel
theorem kX12_isRight_8 : zD cX12_isRight 8 9 (.irem) 1 := by decide +kernel
theorem kX12_isRight_9 : zD cX12_isRight 9 10 (.iconst 1) 1 := by decide +kernel
theorem kX12_isRight_10 : zD cX12_isRight 10 11 (.iadd) 1 := by decide +kernel
theorem kX12_isRight_11 : zD cX12_isRight 11 14 (.invokestatic 68) 3 := by decide +kernel
theorem kX12_isRight_14 : zD cX12_isRight 14 15 (.ireturn) 1 := by decide +kernel
set_option maxRecDepth 10000 in
theorem wX12_isRight_0 {G : ZG} {d : Nat} {h : ZH} {Q : Option ZV → ZH → Prop} {x1 : Int32} {x2 : Int32} 
  (H : Q (some (zi (zb (atI x1 ((x2 / 4) - 1) ((x2 - x2 / 4 * 4) + 1))))) h) :
  zT G (d + 3) mX12_isRight 0 [zr 5 0, zi x1, zi x2] [] h Q := by
  refine zt_iload_n kX12_isRight_0 rfl ?_
  refine zt_iload_n kX12_isRight_1 rfl ?_
  refine zt_iconst (v := 4) kX12_isRight_2 rfl ?_
  refine zt_idiv kX12_isRight_3 (by decide) ?_
  refine zt_iconst (v := 1) kX12_isRight_4 rfl ?_
  refine zt_isub kX12_isRight_5 ?_
  refine zt_iload_n kX12_isRight_6 rfl ?_
  refine zt_iconst (v := 4) kX12_isRight_7 rfl ?_
  refine zt_irem kX12_isRight_8 (by decide) ?_
  refine zt_iconst (v := 1) kX12_isRight_9 rfl ?_
  refine zt_iadd kX12_isRight_10 ?_
  refine zt_cS (as := [zi x1, zi ((x2 / 4) - 1), zi ((x2 - x2 / 4 * 4) + 1)]) kX12_isRight_11 sRX12_68 rfl (by simp) rfl (sX12_isAt _  ) (fun r h0 hq => ?_)
  obtain ⟨rfl, hh⟩ := hq
  replace hh := hh.symm
  subst hh
  exact zt_zret kX12_isRight_14 rfl (zb_01 _) H

theorem kX12_isClinging_0 : zD cX12_isClinging 0 1 (.iload_n 2) 1 := by decide +kernel
theorem kX12_isClinging_1 : zD cX12_isClinging 1 2 (.iconst 4) 1 := by decide +kernel
theorem kX12_isClinging_2 : zD cX12_isClinging 2 3 (.idiv) 1 := by decide +kernel
theorem kX12_isClinging_3 : zD cX12_isClinging 3 4 (.istore_n 3) 1 := by decide +kernel
theorem kX12_isClinging_4 : zD cX12_isClinging 4 5 (.iload_n 2) 1 := by decide +kernel
theorem kX12_isClinging_5 : zD cX12_isClinging 5 6 (.iconst 4) 1 := by decide +kernel
theorem kX12_isClinging_6 : zD cX12_isClinging 6 7 (.irem) 1 := by decide +kernel
theorem kX12_isClinging_7 : zD cX12_isClinging 7 9 (.istore 4) 2 := by decide +kernel
theorem kX12_isClinging_9 : zD cX12_isClinging 9 10 (.iload_n 1) 1 := by decide +kernel
theorem kX12_isClinging_10 : zD cX12_isClinging 10 11 (.iload_n 3) 1 := by decide +kernel
theorem kX12_isClinging_11 : zD cX12_isClinging 11 13 (.iload 4) 2 := by decide +kernel
theorem kX12_isClinging_13 : zD cX12_isClinging 13 14 (.iconst 1) 1 := by decide +kernel
theorem kX12_isClinging_14 : zD cX12_isClinging 14 15 (.isub) 1 := by decide +kernel
theorem kX12_isClinging_15 : zD cX12_isClinging 15 18 (.invokestatic 68) 3 := by decide +kernel
theorem kX12_isClinging_18 : zB cX12_isClinging 18 21 35 (.ifCond .eq 17) 17 := by decide +kernel
theorem kX12_isClinging_21 : zD cX12_isClinging 21 22 (.aload_n 0) 1 := by decide +kernel
theorem kX12_isClinging_22 : zD cX12_isClinging 22 23 (.iload_n 2) 1 := by decide +kernel
theorem kX12_isClinging_23 : zD cX12_isClinging 23 24 (.iconst 1) 1 := by decide +kernel
theorem kX12_isClinging_24 : zD cX12_isClinging 24 25 (.isub) 1 := by decide +kernel
theorem kX12_isClinging_25 : zD cX12_isClinging 25 28 (.invokevirtual 71) 3 := by decide +kernel
theorem kX12_isClinging_28 : zB cX12_isClinging 28 31 35 (.ifCond .ne 7) 7 := by decide +kernel
theorem kX12_isClinging_31 : zD cX12_isClinging 31 32 (.iconst 1) 1 := by decide +kernel
theorem kX12_isClinging_32 : zB cX12_isClinging 32 35 36 (.goto 4) 4 := by decide +kernel
theorem kX12_isClinging_35 : zD cX12_isClinging 35 36 (.iconst 0) 1 := by decide +kernel
theorem kX12_isClinging_36 : zD cX12_isClinging 36 38 (.istore 5) 2 := by decide +kernel
theorem kX12_isClinging_38 : zD cX12_isClinging 38 40 (.iload 5) 2 := by decide +kernel
theorem kX12_isClinging_40 : zB cX12_isClinging 40 43 65 (.ifCond .ne 25) 25 := by decide +kernel
theorem kX12_isClinging_43 : zD cX12_isClinging 43 44 (.iload_n 1) 1 := by decide +kernel
theorem kX12_isClinging_44 : zD cX12_isClinging 44 45 (.iload_n 3) 1 := by decide +kernel
theorem kX12_isClinging_45 : zD cX12_isClinging 45 47 (.iload 4) 2 := by decide +kernel
theorem kX12_isClinging_47 : zD cX12_isClinging 47 48 (.iconst 1) 1 := by decide +kernel
theorem kX12_isClinging_48 : zD cX12_isClinging 48 49 (.iadd) 1 := by decide +kernel
theorem kX12_isClinging_49 : zD cX12_isClinging 49 52 (.invokestatic 68) 3 := by decide +kernel
theorem kX12_isClinging_52 : zB cX12_isClinging 52 55 69 (.ifCond .eq 17) 17 := by decide +kernel
theorem kX12_isClinging_55 : zD cX12_isClinging 55 56 (.aload_n 0) 1 := by decide +kernel
theorem kX12_isClinging_56 : zD cX12_isClinging 56 57 (.iload_n 2) 1 := by decide +kernel
theorem kX12_isClinging_57 : zD cX12_isClinging 57 58 (.iconst 1) 1 := by decide +kernel
theorem kX12_isClinging_58 : zD cX12_isClinging 58 59 (.iadd) 1 := by decide +kernel
theorem kX12_isClinging_59 : zD cX12_isClinging 59 62 (.invokevirtual 71) 3 := by decide +kernel
theorem kX12_isClinging_62 : zB cX12_isClinging 62 65 69 (.ifCond .ne 7) 7 := by decide +kernel
theorem kX12_isClinging_65 : zD cX12_isClinging 65 66 (.iconst 1) 1 := by decide +kernel
theorem kX12_isClinging_66 : zB cX12_isClinging 66 69 70 (.goto 4) 4 := by decide +kernel
theorem kX12_isClinging_69 : zD cX12_isClinging 69 70 (.iconst 0) 1 := by decide +kernel
theorem kX12_isClinging_70 : zD cX12_isClinging 70 71 (.ireturn) 1 := by decide +kernel
set_option maxRecDepth 10000 in
theorem wX12_isClinging_0 {G : ZG} {d : Nat} {h : ZH} {Q : Option ZV → ZH → Prop} {x1 : Int32} {x2 : Int32} 
  (H : (¬ (atI x1 (x2 / 4) ((x2 - x2 / 4 * 4) - 1)) → (¬ (atI x1 (x2 / 4) ((x2 - x2 / 4 * 4) + 1)) → Q (some (zi 0)) h) ∧ ((atI x1 (x2 / 4) ((x2 - x2 / 4 * 4) + 1)) → vp_in (x2 + 1) 12 ∧ (((lightK (kindI h (x2 + 1))) → Q (some (zi 0)) h) ∧ (¬ (lightK (kindI h (x2 + 1))) → Q (some (zi 1)) h)))) ∧ ((atI x1 (x2 / 4) ((x2 - x2 / 4 * 4) - 1)) → vp_in (x2 - 1) 12 ∧ (((lightK (kindI h (x2 - 1))) → (¬ (atI x1 (x2 / 4) ((x2 - x2 / 4 * 4) + 1)) → Q (some (zi 0)) h) ∧ ((atI x1 (x2 / 4) ((x2 - x2 / 4 * 4) + 1)) → vp_in (x2 + 1) 12 ∧ (((lightK (kindI h (x2 + 1))) → Q (some (zi 0)) h) ∧ (¬ (lightK (kindI h (x2 + 1))) → Q (some (zi 1)) h)))) ∧ (¬ (lightK (kindI h (x2 - 1))) → Q (some (zi 1)) h)))) :
  zT G (d + 3) mX12_isClinging 0 [zr 5 0, zi x1, zi x2, zu, zu, zu] [] h Q := by
  refine zt_iload_n kX12_isClinging_0 rfl ?_
  refine zt_iconst (v := 4) kX12_isClinging_1 rfl ?_
  refine zt_idiv kX12_isClinging_2 (by decide) ?_
  refine zt_istore_n (L' := [zr 5 0, zi x1, zi x2, zi (x2 / 4), zu, zu]) kX12_isClinging_3 (by decide) rfl ?_
  refine zt_iload_n kX12_isClinging_4 rfl ?_
  refine zt_iconst (v := 4) kX12_isClinging_5 rfl ?_
  refine zt_irem kX12_isClinging_6 (by decide) ?_
  refine zt_istore (L' := [zr 5 0, zi x1, zi x2, zi (x2 / 4), zi (x2 - x2 / 4 * 4), zu]) kX12_isClinging_7 (by decide) rfl ?_
  refine zt_iload_n kX12_isClinging_9 rfl ?_
  refine zt_iload_n kX12_isClinging_10 rfl ?_
  refine zt_iload kX12_isClinging_11 rfl ?_
  refine zt_iconst (v := 1) kX12_isClinging_13 rfl ?_
  refine zt_isub kX12_isClinging_14 ?_
  refine zt_cS (as := [zi x1, zi (x2 / 4), zi ((x2 - x2 / 4 * 4) - 1)]) kX12_isClinging_15 sRX12_68 rfl (by simp) rfl (sX12_isAt _  ) (fun r h0 hq => ?_)
  obtain ⟨rfl, hh⟩ := hq
  replace hh := hh.symm
  subst hh
  refine zt_ifb_eq kX12_isClinging_18 (fun c => ?_) (fun c => ?_)
  · replace H := H.1 c
    refine zt_iconst (v := 0) kX12_isClinging_35 rfl ?_
    refine zt_istore (L' := [zr 5 0, zi x1, zi x2, zi (x2 / 4), zi (x2 - x2 / 4 * 4), zi 0]) kX12_isClinging_36 (by decide) rfl ?_
    refine zt_iload kX12_isClinging_38 rfl ?_
    refine zt_if_ne kX12_isClinging_40 (fun c => absurd c (by decide)) (fun _ => ?_)
    refine zt_iload_n kX12_isClinging_43 rfl ?_
    refine zt_iload_n kX12_isClinging_44 rfl ?_
    refine zt_iload kX12_isClinging_45 rfl ?_
    refine zt_iconst (v := 1) kX12_isClinging_47 rfl ?_
    refine zt_iadd kX12_isClinging_48 ?_
    refine zt_cS (as := [zi x1, zi (x2 / 4), zi ((x2 - x2 / 4 * 4) + 1)]) kX12_isClinging_49 sRX12_68 rfl (by simp) rfl (sX12_isAt _  ) (fun r h0 hq => ?_)
    obtain ⟨rfl, hh⟩ := hq
    replace hh := hh.symm
    subst hh
    refine zt_ifb_eq kX12_isClinging_52 (fun c => ?_) (fun c => ?_)
    · replace H := H.1 c
      refine zt_iconst (v := 0) kX12_isClinging_69 rfl ?_
      exact zt_zret kX12_isClinging_70 rfl (by decide) H
    · replace H := H.2 c
      refine zt_aload_n kX12_isClinging_55 rfl ?_
      refine zt_iload_n kX12_isClinging_56 rfl ?_
      refine zt_iconst (v := 1) kX12_isClinging_57 rfl ?_
      refine zt_iadd kX12_isClinging_58 ?_
      obtain ⟨pp0, H⟩ := H
      refine zt_cV (as := [zi (x2 + 1)]) kX12_isClinging_59 sRX12_71 rfl (by decide) rfl (by simp) rfl (sX12_isLight _  pp0) (fun r h0 hq => ?_)
      obtain ⟨rfl, hh⟩ := hq
      replace hh := hh.symm
      subst hh
      refine zt_ifb_ne kX12_isClinging_62 (fun c => ?_) (fun c => ?_)
      · replace H := H.1 c
        refine zt_iconst (v := 0) kX12_isClinging_69 rfl ?_
        exact zt_zret kX12_isClinging_70 rfl (by decide) H
      · replace H := H.2 c
        refine zt_iconst (v := 1) kX12_isClinging_65 rfl ?_
        refine zt_goto kX12_isClinging_66 ?_
        exact zt_zret kX12_isClinging_70 rfl (by decide) H
  · replace H := H.2 c
    refine zt_aload_n kX12_isClinging_21 rfl ?_
    refine zt_iload_n kX12_isClinging_22 rfl ?_
    refine zt_iconst (v := 1) kX12_isClinging_23 rfl ?_
    refine zt_isub kX12_isClinging_24 ?_
    obtain ⟨pp0, H⟩ := H
    refine zt_cV (as := [zi (x2 - 1)]) kX12_isClinging_25 sRX12_71 rfl (by decide) rfl (by simp) rfl (sX12_isLight _  pp0) (fun r h0 hq => ?_)
    obtain ⟨rfl, hh⟩ := hq
    replace hh := hh.symm
    subst hh
    refine zt_ifb_ne kX12_isClinging_28 (fun c => ?_) (fun c => ?_)
    · replace H := H.1 c
      refine zt_iconst (v := 0) kX12_isClinging_35 rfl ?_
      refine zt_istore (L' := [zr 5 0, zi x1, zi x2, zi (x2 / 4), zi (x2 - x2 / 4 * 4), zi 0]) kX12_isClinging_36 (by decide) rfl ?_
      refine zt_iload kX12_isClinging_38 rfl ?_
      refine zt_if_ne kX12_isClinging_40 (fun c => absurd c (by decide)) (fun _ => ?_)
      refine zt_iload_n kX12_isClinging_43 rfl ?_
      refine zt_iload_n kX12_isClinging_44 rfl ?_
      refine zt_iload kX12_isClinging_45 rfl ?_
      refine zt_iconst (v := 1) kX12_isClinging_47 rfl ?_
      refine zt_iadd kX12_isClinging_48 ?_
      refine zt_cS (as := [zi x1, zi (x2 / 4), zi ((x2 - x2 / 4 * 4) + 1)]) kX12_isClinging_49 sRX12_68 rfl (by simp) rfl (sX12_isAt _  ) (fun r h0 hq => ?_)
      obtain ⟨rfl, hh⟩ := hq
      replace hh := hh.symm
      subst hh
      refine zt_ifb_eq kX12_isClinging_52 (fun c => ?_) (fun c => ?_)
      · replace H := H.1 c
        refine zt_iconst (v := 0) kX12_isClinging_69 rfl ?_
        exact zt_zret kX12_isClinging_70 rfl (by decide) H
      · replace H := H.2 c
        refine zt_aload_n kX12_isClinging_55 rfl ?_
        refine zt_iload_n kX12_isClinging_56 rfl ?_
        refine zt_iconst (v := 1) kX12_isClinging_57 rfl ?_
        refine zt_iadd kX12_isClinging_58 ?_
        obtain ⟨pp0, H⟩ := H
        refine zt_cV (as := [zi (x2 + 1)]) kX12_isClinging_59 sRX12_71 rfl (by decide) rfl (by simp) rfl (sX12_isLight _  pp0) (fun r h0 hq => ?_)
        obtain ⟨rfl, hh⟩ := hq
        replace hh := hh.symm
        subst hh
        refine zt_ifb_ne kX12_isClinging_62 (fun c => ?_) (fun c => ?_)
        · replace H := H.1 c
          refine zt_iconst (v := 0) kX12_isClinging_69 rfl ?_
          exact zt_zret kX12_isClinging_70 rfl (by decide) H
        · replace H := H.2 c
          refine zt_iconst (v := 1) kX12_isClinging_65 rfl ?_
          refine zt_goto kX12_isClinging_66 ?_
          exact zt_zret kX12_isClinging_70 rfl (by decide) H
    · replace H := H.2 c
      refine zt_iconst (v := 1) kX12_isClinging_31 rfl ?_
      refine zt_goto kX12_isClinging_32 ?_
      refine zt_istore (L' := [zr 5 0, zi x1, zi x2, zi (x2 / 4), zi (x2 - x2 / 4 * 4), zi 1]) kX12_isClinging_36 (by decide) rfl ?_
      refine zt_iload kX12_isClinging_38 rfl ?_
      refine zt_if_ne kX12_isClinging_40 (fun _ => ?_) (fun c => absurd c (by decide))
      refine zt_iconst (v := 1) kX12_isClinging_65 rfl ?_
      refine zt_goto kX12_isClinging_66 ?_
      exact zt_zret kX12_isClinging_70 rfl (by decide) H

theorem kX12_noteOf_0 : zD cX12_noteOf 0 2 (.bipush 7) 2 := by decide +kernel
theorem kX12_noteOf_2 : zD cX12_noteOf 2 3 (.aload_n 0) 1 := by decide +kernel
theorem kX12_noteOf_3 : zD cX12_noteOf 3 4 (.iload_n 1) 1 := by decide +kernel
theorem kX12_noteOf_4 : zD cX12_noteOf 4 7 (.invokevirtual 87) 3 := by decide +kernel
theorem kX12_noteOf_7 : zD cX12_noteOf 7 8 (.imul) 1 := by decide +kernel
theorem kX12_noteOf_8 : zD cX12_noteOf 8 9 (.iconst 3) 1 := by decide +kernel
theorem kX12_noteOf_9 : zD cX12_noteOf 9 10 (.aload_n 0) 1 := by decide +kernel
theorem kX12_noteOf_10 : zD cX12_noteOf 10 13 (.getfield 19) 3 := by decide +kernel
theorem kX12_noteOf_13 : zD cX12_noteOf 13 14 (.iload_n 1) 1 := by decide +kernel
theorem kX12_noteOf_14 : zD cX12_noteOf 14 15 (.iaload) 1 := by decide +kernel
theorem kX12_noteOf_15 : zD cX12_noteOf 15 16 (.imul) 1 := by decide +kernel
theorem kX12_noteOf_16 : zD cX12_noteOf 16 17 (.iadd) 1 := by decide +kernel
theorem kX12_noteOf_17 : zD cX12_noteOf 17 19 (.bipush 50) 2 := by decide +kernel
theorem kX12_noteOf_19 : zD cX12_noteOf 19 20 (.irem) 1 := by decide +kernel
theorem kX12_noteOf_20 : zD cX12_noteOf 20 21 (.ireturn) 1 := by decide +kernel
set_option maxRecDepth 10000 in
theorem wX12_noteOf_0 {G : ZG} {d : Nat} {h : ZH} {Q : Option ZV → ZH → Prop} {x1 : Int32} 
  (H : vp_in x1 12 ∧ (vp_in x1 12 ∧ Q (some (zi (((7 * (wgtI (kindI h x1) (figI h x1))) + (3 * (h.1 33 0 x1.toNatClampNeg))) - ((7 * (wgtI (kindI h x1) (figI h x1))) + (3 * (h.1 33 0 x1.toNatClampNeg))) / 50 * 50))) h)) :
  zT G (d + 3) mX12_noteOf 0 [zr 5 0, zi x1] [] h Q := by
  refine zt_bipush (v := 7) kX12_noteOf_0 rfl ?_
  refine zt_aload_n kX12_noteOf_2 rfl ?_
  refine zt_iload_n kX12_noteOf_3 rfl ?_
  obtain ⟨pp0, H⟩ := H
  refine zt_cV (as := [zi x1]) kX12_noteOf_4 sRX12_87 rfl (by decide) rfl (by simp) rfl (sX12_weight _  pp0) (fun r h0 hq => ?_)
  obtain ⟨rfl, hh⟩ := hq
  replace hh := hh.symm
  subst hh
  refine zt_imul kX12_noteOf_7 ?_
  refine zt_iconst (v := 3) kX12_noteOf_8 rfl ?_
  refine zt_aload_n kX12_noteOf_9 rfl ?_
  refine zt_get (v := zr 33 0) kX12_noteOf_10 fRX12_19 rfl (by decide) rfl ?_
  refine zt_iload_n kX12_noteOf_13 rfl ?_
  obtain ⟨hv, H⟩ := H
  refine zt_iald kX12_noteOf_14 rfl (by decide) hv ?_
  refine zt_imul kX12_noteOf_15 ?_
  refine zt_iadd kX12_noteOf_16 ?_
  refine zt_bipush (v := 50) kX12_noteOf_17 rfl ?_
  refine zt_irem kX12_noteOf_19 (by decide) ?_
  exact zt_iret kX12_noteOf_20 rfl H

theorem kX12_wrongKept_0 : zD cX12_wrongKept 0 1 (.iload_n 1) 1 := by decide +kernel
theorem kX12_wrongKept_1 : zD cX12_wrongKept 1 4 (.invokestatic 241) 3 := by decide +kernel
theorem kX12_wrongKept_4 : zB cX12_wrongKept 4 7 11 (.ifCond .ne 7) 7 := by decide +kernel
theorem kX12_wrongKept_7 : zD cX12_wrongKept 7 8 (.iconst (-1)) 1 := by decide +kernel
theorem kX12_wrongKept_8 : zB cX12_wrongKept 8 11 41 (.goto 33) 33 := by decide +kernel
theorem kX12_wrongKept_11 : zD cX12_wrongKept 11 12 (.aload_n 0) 1 := by decide +kernel
theorem kX12_wrongKept_12 : zD cX12_wrongKept 12 15 (.getfield 35) 3 := by decide +kernel
theorem kX12_wrongKept_15 : zD cX12_wrongKept 15 16 (.iload_n 1) 1 := by decide +kernel
theorem kX12_wrongKept_16 : zD cX12_wrongKept 16 17 (.iaload) 1 := by decide +kernel
theorem kX12_wrongKept_17 : zB cX12_wrongKept 17 20 25 (.ifCond .ne 8) 8 := by decide +kernel
theorem kX12_wrongKept_20 : zD cX12_wrongKept 20 22 (.bipush (-11)) 2 := by decide +kernel
theorem kX12_wrongKept_22 : zB cX12_wrongKept 22 25 41 (.goto 19) 19 := by decide +kernel
theorem kX12_wrongKept_25 : zD cX12_wrongKept 25 26 (.aload_n 0) 1 := by decide +kernel
theorem kX12_wrongKept_26 : zD cX12_wrongKept 26 29 (.getfield 35) 3 := by decide +kernel
theorem kX12_wrongKept_29 : zD cX12_wrongKept 29 30 (.iload_n 1) 1 := by decide +kernel
theorem kX12_wrongKept_30 : zD cX12_wrongKept 30 31 (.iaload) 1 := by decide +kernel
theorem kX12_wrongKept_31 : zD cX12_wrongKept 31 32 (.iconst 2) 1 := by decide +kernel
theorem kX12_wrongKept_32 : zB cX12_wrongKept 32 35 40 (.if_icmp .ne 8) 8 := by decide +kernel
theorem kX12_wrongKept_35 : zD cX12_wrongKept 35 37 (.bipush (-12)) 2 := by decide +kernel
theorem kX12_wrongKept_37 : zB cX12_wrongKept 37 40 41 (.goto 4) 4 := by decide +kernel
theorem kX12_wrongKept_40 : zD cX12_wrongKept 40 41 (.iconst 0) 1 := by decide +kernel
theorem kX12_wrongKept_41 : zD cX12_wrongKept 41 42 (.ireturn) 1 := by decide +kernel
set_option maxRecDepth 10000 in
theorem wX12_wrongKept_0 {G : ZG} {d : Nat} {h : ZH} {Q : Option ZV → ZH → Prop} {x1 : Int32} 
  (H : ((0 ≤ x1 ∧ x1 ≤ 7) → vp_in x1 8 ∧ (¬ (h.1 38 0 x1.toNatClampNeg) = 0 → vp_in x1 8 ∧ (¬ (h.1 38 0 x1.toNatClampNeg) = 2 → Q (some (zi 0)) h) ∧ ((h.1 38 0 x1.toNatClampNeg) = 2 → Q (some (zi (-12))) h)) ∧ ((h.1 38 0 x1.toNatClampNeg) = 0 → Q (some (zi (-11))) h)) ∧ (¬ (0 ≤ x1 ∧ x1 ≤ 7) → Q (some (zi (-1))) h)) :
  zT G (d + 3) mX12_wrongKept 0 [zr 5 0, zi x1] [] h Q := by
  refine zt_iload_n kX12_wrongKept_0 rfl ?_
  refine zt_cS (as := [zi x1]) kX12_wrongKept_1 sRX12_241 rfl (by simp) rfl (sX12_isShelf _  ) (fun r h0 hq => ?_)
  obtain ⟨rfl, hh⟩ := hq
  replace hh := hh.symm
  subst hh
  refine zt_ifb_ne kX12_wrongKept_4 (fun c => ?_) (fun c => ?_)
  · replace H := H.1 c
    refine zt_aload_n kX12_wrongKept_11 rfl ?_
    refine zt_get (v := zr 38 0) kX12_wrongKept_12 fRX12_35 rfl (by decide) rfl ?_
    refine zt_iload_n kX12_wrongKept_15 rfl ?_
    obtain ⟨hv, H⟩ := H
    refine zt_iald kX12_wrongKept_16 rfl (by decide) hv ?_
    refine zt_if_ne kX12_wrongKept_17 (fun c => ?_) (fun c => ?_)
    · replace H := H.1 c
      refine zt_aload_n kX12_wrongKept_25 rfl ?_
      refine zt_get (v := zr 38 0) kX12_wrongKept_26 fRX12_35 rfl (by decide) rfl ?_
      refine zt_iload_n kX12_wrongKept_29 rfl ?_
      obtain ⟨hv, H⟩ := H
      refine zt_iald kX12_wrongKept_30 rfl (by decide) hv ?_
      refine zt_iconst (v := 2) kX12_wrongKept_31 rfl ?_
      refine zt_icmp_ne kX12_wrongKept_32 (fun c => ?_) (fun c => ?_)
      · replace H := H.1 c
        refine zt_iconst (v := 0) kX12_wrongKept_40 rfl ?_
        exact zt_iret kX12_wrongKept_41 rfl H
      · replace H := H.2 c
        refine zt_bipush (v := (-12)) kX12_wrongKept_35 rfl ?_
        refine zt_goto kX12_wrongKept_37 ?_
        exact zt_iret kX12_wrongKept_41 rfl H
    · replace H := H.2 c
      refine zt_bipush (v := (-11)) kX12_wrongKept_20 rfl ?_
      refine zt_goto kX12_wrongKept_22 ?_
      exact zt_iret kX12_wrongKept_41 rfl H
  · replace H := H.2 c
    refine zt_iconst (v := (-1)) kX12_wrongKept_7 rfl ?_
    refine zt_goto kX12_wrongKept_8 ?_
    exact zt_iret kX12_wrongKept_41 rfl H

theorem kX12_wrongRow_0 : zD cX12_wrongRow 0 1 (.iload_n 1) 1 := by decide +kernel
theorem kX12_wrongRow_1 : zD cX12_wrongRow 1 4 (.invokestatic 241) 3 := by decide +kernel
theorem kX12_wrongRow_4 : zB cX12_wrongRow 4 7 11 (.ifCond .ne 7) 7 := by decide +kernel
theorem kX12_wrongRow_7 : zD cX12_wrongRow 7 8 (.iconst (-1)) 1 := by decide +kernel
theorem kX12_wrongRow_8 : zB cX12_wrongRow 8 11 55 (.goto 47) 47 := by decide +kernel
theorem kX12_wrongRow_11 : zD cX12_wrongRow 11 12 (.aload_n 0) 1 := by decide +kernel
theorem kX12_wrongRow_12 : zD cX12_wrongRow 12 15 (.getfield 35) 3 := by decide +kernel
theorem kX12_wrongRow_15 : zD cX12_wrongRow 15 16 (.iload_n 1) 1 := by decide +kernel
theorem kX12_wrongRow_16 : zD cX12_wrongRow 16 17 (.iaload) 1 := by decide +kernel
theorem kX12_wrongRow_17 : zB cX12_wrongRow 17 20 25 (.ifCond .ne 8) 8 := by decide +kernel
theorem kX12_wrongRow_20 : zD cX12_wrongRow 20 22 (.bipush (-11)) 2 := by decide +kernel
theorem kX12_wrongRow_22 : zB cX12_wrongRow 22 25 55 (.goto 33) 33 := by decide +kernel
theorem kX12_wrongRow_25 : zD cX12_wrongRow 25 26 (.aload_n 0) 1 := by decide +kernel
theorem kX12_wrongRow_26 : zD cX12_wrongRow 26 29 (.getfield 35) 3 := by decide +kernel
theorem kX12_wrongRow_29 : zD cX12_wrongRow 29 30 (.iload_n 1) 1 := by decide +kernel
theorem kX12_wrongRow_30 : zD cX12_wrongRow 30 31 (.iaload) 1 := by decide +kernel
theorem kX12_wrongRow_31 : zD cX12_wrongRow 31 32 (.iconst 2) 1 := by decide +kernel
theorem kX12_wrongRow_32 : zB cX12_wrongRow 32 35 49 (.if_icmp .ne 17) 17 := by decide +kernel
theorem kX12_wrongRow_35 : zD cX12_wrongRow 35 36 (.iload_n 2) 1 := by decide +kernel
theorem kX12_wrongRow_36 : zB cX12_wrongRow 36 39 54 (.ifCond .lt 18) 18 := by decide +kernel
theorem kX12_wrongRow_39 : zD cX12_wrongRow 39 40 (.aload_n 0) 1 := by decide +kernel
theorem kX12_wrongRow_40 : zD cX12_wrongRow 40 43 (.getfield 44) 3 := by decide +kernel
theorem kX12_wrongRow_43 : zD cX12_wrongRow 43 44 (.iload_n 1) 1 := by decide +kernel
theorem kX12_wrongRow_44 : zD cX12_wrongRow 44 45 (.iaload) 1 := by decide +kernel
theorem kX12_wrongRow_45 : zD cX12_wrongRow 45 46 (.iload_n 2) 1 := by decide +kernel
theorem kX12_wrongRow_46 : zB cX12_wrongRow 46 49 54 (.if_icmp .eq 8) 8 := by decide +kernel
theorem kX12_wrongRow_49 : zD cX12_wrongRow 49 51 (.bipush (-12)) 2 := by decide +kernel
theorem kX12_wrongRow_51 : zB cX12_wrongRow 51 54 55 (.goto 4) 4 := by decide +kernel
theorem kX12_wrongRow_54 : zD cX12_wrongRow 54 55 (.iconst 0) 1 := by decide +kernel
theorem kX12_wrongRow_55 : zD cX12_wrongRow 55 56 (.ireturn) 1 := by decide +kernel
set_option maxRecDepth 10000 in
theorem wX12_wrongRow_0 {G : ZG} {d : Nat} {h : ZH} {Q : Option ZV → ZH → Prop} {x1 : Int32} {x2 : Int32} 
  (H : ((0 ≤ x1 ∧ x1 ≤ 7) → vp_in x1 8 ∧ (¬ (h.1 38 0 x1.toNatClampNeg) = 0 → vp_in x1 8 ∧ (¬ (h.1 38 0 x1.toNatClampNeg) = 2 → Q (some (zi (-12))) h) ∧ ((h.1 38 0 x1.toNatClampNeg) = 2 → (x2 < 0 → Q (some (zi 0)) h) ∧ (¬ x2 < 0 → vp_in x1 8 ∧ ((h.1 41 0 x1.toNatClampNeg) = x2 → Q (some (zi 0)) h) ∧ (¬ (h.1 41 0 x1.toNatClampNeg) = x2 → Q (some (zi (-12))) h)))) ∧ ((h.1 38 0 x1.toNatClampNeg) = 0 → Q (some (zi (-11))) h)) ∧ (¬ (0 ≤ x1 ∧ x1 ≤ 7) → Q (some (zi (-1))) h)) :
  zT G (d + 3) mX12_wrongRow 0 [zr 5 0, zi x1, zi x2] [] h Q := by
  refine zt_iload_n kX12_wrongRow_0 rfl ?_
  refine zt_cS (as := [zi x1]) kX12_wrongRow_1 sRX12_241 rfl (by simp) rfl (sX12_isShelf _  ) (fun r h0 hq => ?_)
  obtain ⟨rfl, hh⟩ := hq
  replace hh := hh.symm
  subst hh
  refine zt_ifb_ne kX12_wrongRow_4 (fun c => ?_) (fun c => ?_)
  · replace H := H.1 c
    refine zt_aload_n kX12_wrongRow_11 rfl ?_
    refine zt_get (v := zr 38 0) kX12_wrongRow_12 fRX12_35 rfl (by decide) rfl ?_
    refine zt_iload_n kX12_wrongRow_15 rfl ?_
    obtain ⟨hv, H⟩ := H
    refine zt_iald kX12_wrongRow_16 rfl (by decide) hv ?_
    refine zt_if_ne kX12_wrongRow_17 (fun c => ?_) (fun c => ?_)
    · replace H := H.1 c
      refine zt_aload_n kX12_wrongRow_25 rfl ?_
      refine zt_get (v := zr 38 0) kX12_wrongRow_26 fRX12_35 rfl (by decide) rfl ?_
      refine zt_iload_n kX12_wrongRow_29 rfl ?_
      obtain ⟨hv, H⟩ := H
      refine zt_iald kX12_wrongRow_30 rfl (by decide) hv ?_
      refine zt_iconst (v := 2) kX12_wrongRow_31 rfl ?_
      refine zt_icmp_ne kX12_wrongRow_32 (fun c => ?_) (fun c => ?_)
      · replace H := H.1 c
        refine zt_bipush (v := (-12)) kX12_wrongRow_49 rfl ?_
        refine zt_goto kX12_wrongRow_51 ?_
        exact zt_iret kX12_wrongRow_55 rfl H
      · replace H := H.2 c
        refine zt_iload_n kX12_wrongRow_35 rfl ?_
        refine zt_if_lt kX12_wrongRow_36 (fun c => ?_) (fun c => ?_)
        · replace H := H.1 c
          refine zt_iconst (v := 0) kX12_wrongRow_54 rfl ?_
          exact zt_iret kX12_wrongRow_55 rfl H
        · replace H := H.2 c
          refine zt_aload_n kX12_wrongRow_39 rfl ?_
          refine zt_get (v := zr 41 0) kX12_wrongRow_40 fRX12_44 rfl (by decide) rfl ?_
          refine zt_iload_n kX12_wrongRow_43 rfl ?_
          obtain ⟨hv, H⟩ := H
          refine zt_iald kX12_wrongRow_44 rfl (by decide) hv ?_
          refine zt_iload_n kX12_wrongRow_45 rfl ?_
          refine zt_icmp_eq kX12_wrongRow_46 (fun c => ?_) (fun c => ?_)
          · replace H := H.1 c
            refine zt_iconst (v := 0) kX12_wrongRow_54 rfl ?_
            exact zt_iret kX12_wrongRow_55 rfl H
          · replace H := H.2 c
            refine zt_bipush (v := (-12)) kX12_wrongRow_49 rfl ?_
            refine zt_goto kX12_wrongRow_51 ?_
            exact zt_iret kX12_wrongRow_55 rfl H
    · replace H := H.2 c
      refine zt_bipush (v := (-11)) kX12_wrongRow_20 rfl ?_
      refine zt_goto kX12_wrongRow_22 ?_
      exact zt_iret kX12_wrongRow_55 rfl H
  · replace H := H.2 c
    refine zt_iconst (v := (-1)) kX12_wrongRow_7 rfl ?_
    refine zt_goto kX12_wrongRow_8 ?_
    exact zt_iret kX12_wrongRow_55 rfl H

theorem kX12_wrongStone_0 : zD cX12_wrongStone 0 1 (.iload_n 1) 1 := by decide +kernel
theorem kX12_wrongStone_1 : zD cX12_wrongStone 1 4 (.invokestatic 130) 3 := by decide +kernel
theorem kX12_wrongStone_4 : zB cX12_wrongStone 4 7 11 (.ifCond .ne 7) 7 := by decide +kernel
theorem kX12_wrongStone_7 : zD cX12_wrongStone 7 8 (.iconst (-1)) 1 := by decide +kernel
theorem kX12_wrongStone_8 : zB cX12_wrongStone 8 11 25 (.goto 17) 17 := by decide +kernel
theorem kX12_wrongStone_11 : zD cX12_wrongStone 11 12 (.aload_n 0) 1 := by decide +kernel
theorem kX12_wrongStone_12 : zD cX12_wrongStone 12 13 (.iload_n 1) 1 := by decide +kernel
theorem kX12_wrongStone_13 : zD cX12_wrongStone 13 16 (.invokevirtual 133) 3 := by decide +kernel
theorem kX12_wrongStone_16 : zB cX12_wrongStone 16 19 23 (.ifCond .eq 7) 7 := by decide +kernel
theorem kX12_wrongStone_19 : zD cX12_wrongStone 19 20 (.iconst 0) 1 := by decide +kernel
theorem kX12_wrongStone_20 : zB cX12_wrongStone 20 23 25 (.goto 5) 5 := by decide +kernel
theorem kX12_wrongStone_23 : zD cX12_wrongStone 23 25 (.bipush (-3)) 2 := by decide +kernel
theorem kX12_wrongStone_25 : zD cX12_wrongStone 25 26 (.ireturn) 1 := by decide +kernel
set_option maxRecDepth 10000 in
theorem wX12_wrongStone_0 {G : ZG} {d : Nat} {h : ZH} {Q : Option ZV → ZH → Prop} {x1 : Int32} 
  (H : ((0 ≤ x1 ∧ x1 ≤ 11) → (¬ (hasI (h.1 30 0 0) x1) → Q (some (zi (-3))) h) ∧ ((hasI (h.1 30 0 0) x1) → Q (some (zi 0)) h)) ∧ (¬ (0 ≤ x1 ∧ x1 ≤ 11) → Q (some (zi (-1))) h)) :
  zT G (d + 3) mX12_wrongStone 0 [zr 5 0, zi x1] [] h Q := by
  refine zt_iload_n kX12_wrongStone_0 rfl ?_
  refine zt_cS (as := [zi x1]) kX12_wrongStone_1 sRX12_130 rfl (by simp) rfl (sX12_isPlace _  ) (fun r h0 hq => ?_)
  obtain ⟨rfl, hh⟩ := hq
  replace hh := hh.symm
  subst hh
  refine zt_ifb_ne kX12_wrongStone_4 (fun c => ?_) (fun c => ?_)
  · replace H := H.1 c
    refine zt_aload_n kX12_wrongStone_11 rfl ?_
    refine zt_iload_n kX12_wrongStone_12 rfl ?_
    refine zt_cV (as := [zi x1]) kX12_wrongStone_13 sRX12_133 rfl (by decide) rfl (by simp) rfl (sX12_isThere _  ) (fun r h0 hq => ?_)
    obtain ⟨rfl, hh⟩ := hq
    replace hh := hh.symm
    subst hh
    refine zt_ifb_eq kX12_wrongStone_16 (fun c => ?_) (fun c => ?_)
    · replace H := H.1 c
      refine zt_bipush (v := (-3)) kX12_wrongStone_23 rfl ?_
      exact zt_iret kX12_wrongStone_25 rfl H
    · replace H := H.2 c
      refine zt_iconst (v := 0) kX12_wrongStone_19 rfl ?_
      refine zt_goto kX12_wrongStone_20 ?_
      exact zt_iret kX12_wrongStone_25 rfl H
  · replace H := H.2 c
    refine zt_iconst (v := (-1)) kX12_wrongStone_7 rfl ?_
    refine zt_goto kX12_wrongStone_8 ?_
    exact zt_iret kX12_wrongStone_25 rfl H

theorem kX11_stoneRefused_0 : zD cX11_stoneRefused 0 1 (.iload_n 1) 1 := by decide +kernel
theorem kX11_stoneRefused_1 : zD cX11_stoneRefused 1 4 (.invokestatic 86) 3 := by decide +kernel
theorem kX11_stoneRefused_4 : zB cX11_stoneRefused 4 7 9 (.ifCond .ne 5) 5 := by decide +kernel
theorem kX11_stoneRefused_7 : zD cX11_stoneRefused 7 8 (.iconst (-1)) 1 := by decide +kernel
theorem kX11_stoneRefused_8 : zD cX11_stoneRefused 8 9 (.ireturn) 1 := by decide +kernel
theorem kX11_stoneRefused_9 : zD cX11_stoneRefused 9 10 (.aload_n 0) 1 := by decide +kernel
theorem kX11_stoneRefused_10 : zD cX11_stoneRefused 10 13 (.getfield 48) 3 := by decide +kernel
theorem kX11_stoneRefused_13 : zD cX11_stoneRefused 13 14 (.iload_n 1) 1 := by decide +kernel
theorem kX11_stoneRefused_14 : zD cX11_stoneRefused 14 17 (.invokevirtual 90) 3 := by decide +kernel
theorem kX11_stoneRefused_17 : zB cX11_stoneRefused 17 20 24 (.ifCond .eq 7) 7 := by decide +kernel
theorem kX11_stoneRefused_20 : zD cX11_stoneRefused 20 21 (.iconst 0) 1 := by decide +kernel
theorem kX11_stoneRefused_21 : zB cX11_stoneRefused 21 24 26 (.goto 5) 5 := by decide +kernel
theorem kX11_stoneRefused_24 : zD cX11_stoneRefused 24 26 (.bipush (-3)) 2 := by decide +kernel
theorem kX11_stoneRefused_26 : zD cX11_stoneRefused 26 27 (.ireturn) 1 := by decide +kernel
set_option maxRecDepth 10000 in
theorem wX11_stoneRefused_0 {G : ZG} {d : Nat} {h : ZH} {Q : Option ZV → ZH → Prop} {x1 : Int32} 
  (H : ((0 ≤ x1 ∧ x1 ≤ 11) → (¬ (hasI (h.1 2 0 6) x1) → Q (some (zi (-3))) h) ∧ ((hasI (h.1 2 0 6) x1) → Q (some (zi 0)) h)) ∧ (¬ (0 ≤ x1 ∧ x1 ≤ 11) → Q (some (zi (-1))) h)) :
  zT G (d + 3) mX11_stoneRefused 0 [zr 0 0, zi x1] [] h Q := by
  refine zt_iload_n kX11_stoneRefused_0 rfl ?_
  refine zt_cS (as := [zi x1]) kX11_stoneRefused_1 sRX11_86 rfl (by simp) rfl (sX11_isPlace _  ) (fun r h0 hq => ?_)
  obtain ⟨rfl, hh⟩ := hq
  replace hh := hh.symm
  subst hh
  refine zt_ifb_ne kX11_stoneRefused_4 (fun c => ?_) (fun c => ?_)
  · replace H := H.1 c
    refine zt_aload_n kX11_stoneRefused_9 rfl ?_
    refine zt_get (v := zr 2 0) kX11_stoneRefused_10 fRX11_48 rfl (by decide) rfl ?_
    refine zt_iload_n kX11_stoneRefused_13 rfl ?_
    refine zt_cV (as := [zi x1]) kX11_stoneRefused_14 sRX11_90 rfl (by decide) rfl (by simp) rfl (sX4_holds _ (by decide) ) (fun r h0 hq => ?_)
    obtain ⟨rfl, hh⟩ := hq
    replace hh := hh.symm
    subst hh
    refine zt_ifb_eq kX11_stoneRefused_17 (fun c => ?_) (fun c => ?_)
    · replace H := H.1 c
      refine zt_bipush (v := (-3)) kX11_stoneRefused_24 rfl ?_
      exact zt_iret kX11_stoneRefused_26 rfl H
    · replace H := H.2 c
      refine zt_iconst (v := 0) kX11_stoneRefused_20 rfl ?_
      refine zt_goto kX11_stoneRefused_21 ?_
      exact zt_iret kX11_stoneRefused_26 rfl H
  · replace H := H.2 c
    refine zt_iconst (v := (-1)) kX11_stoneRefused_7 rfl ?_
    exact zt_iret kX11_stoneRefused_8 rfl H

theorem kX11_digitAt_0 : zD cX11_digitAt 0 1 (.aload_n 0) 1 := by decide +kernel
theorem kX11_digitAt_1 : zD cX11_digitAt 1 2 (.iload_n 1) 1 := by decide +kernel
theorem kX11_digitAt_2 : zD cX11_digitAt 2 5 (.invokevirtual 244) 3 := by decide +kernel
theorem kX11_digitAt_5 : zD cX11_digitAt 5 7 (.bipush 48) 2 := by decide +kernel
theorem kX11_digitAt_7 : zD cX11_digitAt 7 8 (.isub) 1 := by decide +kernel
theorem kX11_digitAt_8 : zD cX11_digitAt 8 9 (.ireturn) 1 := by decide +kernel
set_option maxRecDepth 10000 in
theorem wX11_digitAt_0 {G : ZG} {d : Nat} {h : ZH} {Q : Option ZV → ZH → Prop} {i0 : Nat} {x1 : Int32} (hi0 : i0 < zcnt 3)
  (H : h.1 3 i0 4 ≤ 100 ∧ (Q (some (zi ((shAt h i0 x1) - 48))) h)) :
  zT G (d + 3) mX11_digitAt 0 [zr 3 i0, zi x1] [] h Q := by
  refine zt_aload_n kX11_digitAt_0 rfl ?_
  refine zt_iload_n kX11_digitAt_1 rfl ?_
  obtain ⟨pp0, H⟩ := H
  refine zt_cV (as := [zi x1]) kX11_digitAt_2 sRX11_244 rfl hi0 rfl (by simp) rfl (sX8_at _ hi0 pp0) (fun r h0 hq => ?_)
  obtain ⟨rfl, hh⟩ := hq
  replace hh := hh.symm
  subst hh
  refine zt_bipush (v := 48) kX11_digitAt_5 rfl ?_
  refine zt_isub kX11_digitAt_7 ?_
  exact zt_iret kX11_digitAt_8 rfl H

theorem kX5_weight_0 : zD cX5_weight 0 1 (.aload_n 0) 1 := by decide +kernel
theorem kX5_weight_1 : zD cX5_weight 1 2 (.iload_n 1) 1 := by decide +kernel
theorem kX5_weight_2 : zD cX5_weight 2 5 (.invokespecial 7) 3 := by decide +kernel
theorem kX5_weight_5 : zD cX5_weight 5 6 (.iload_n 1) 1 := by decide +kernel
theorem kX5_weight_6 : zD cX5_weight 6 7 (.iadd) 1 := by decide +kernel
theorem kX5_weight_7 : zD cX5_weight 7 8 (.ireturn) 1 := by decide +kernel
set_option maxRecDepth 10000 in
theorem wX5_weight_0 {G : ZG} {d : Nat} {h : ZH} {Q : Option ZV → ZH → Prop} {i0 : Nat} {x1 : Int32} (hi0 : i0 < zcnt 4)
  (H : Q (some (zi ((2 + x1 - 1) + x1))) h) :
  zT G (d + 3) mX5_weight 0 [zr 4 i0, zi x1] [] h Q := by
  refine zt_aload_n kX5_weight_0 rfl ?_
  refine zt_iload_n kX5_weight_1 rfl ?_
  refine zt_cU (as := [zi x1]) kX5_weight_2 sRX5_7 (zcl4 hi0) rfl hi0 rfl (by simp) rfl (sX0_weight _ hi0 ) (fun r h0 hq => ?_)
  obtain ⟨rfl, hh⟩ := hq
  replace hh := hh.symm
  subst hh
  refine zt_iload_n kX5_weight_5 rfl ?_
  refine zt_iadd kX5_weight_6 ?_
  exact zt_iret kX5_weight_7 rfl H

theorem kX5_bears_0 : zD cX5_bears 0 1 (.aload_n 0) 1 := by decide +kernel
theorem kX5_bears_1 : zD cX5_bears 1 2 (.iload_n 1) 1 := by decide +kernel
theorem kX5_bears_2 : zD cX5_bears 2 5 (.invokespecial 11) 3 := by decide +kernel
theorem kX5_bears_5 : zD cX5_bears 5 6 (.iload_n 1) 1 := by decide +kernel
theorem kX5_bears_6 : zD cX5_bears 6 7 (.iadd) 1 := by decide +kernel
theorem kX5_bears_7 : zD cX5_bears 7 8 (.ireturn) 1 := by decide +kernel
set_option maxRecDepth 10000 in
theorem wX5_bears_0 {G : ZG} {d : Nat} {h : ZH} {Q : Option ZV → ZH → Prop} {i0 : Nat} {x1 : Int32} (hi0 : i0 < zcnt 4)
  (H : Q (some (zi (((20 : Int32) - 8) + x1))) h) :
  zT G (d + 3) mX5_bears 0 [zr 4 i0, zi x1] [] h Q := by
  refine zt_aload_n kX5_bears_0 rfl ?_
  refine zt_iload_n kX5_bears_1 rfl ?_
  refine zt_cU (as := [zi x1]) kX5_bears_2 sRX5_11 (zcl4 hi0) rfl hi0 rfl (by simp) rfl (sX0_bears _ hi0 ) (fun r h0 hq => ?_)
  obtain ⟨rfl, hh⟩ := hq
  replace hh := hh.symm
  subst hh
  refine zt_iload_n kX5_bears_5 rfl ?_
  refine zt_iadd kX5_bears_6 ?_
  exact zt_iret kX5_bears_7 rfl H

theorem kX5_price_0 : zD cX5_price 0 1 (.aload_n 0) 1 := by decide +kernel
theorem kX5_price_1 : zD cX5_price 1 2 (.iload_n 1) 1 := by decide +kernel
theorem kX5_price_2 : zD cX5_price 2 5 (.invokespecial 14) 3 := by decide +kernel
theorem kX5_price_5 : zD cX5_price 5 6 (.iload_n 1) 1 := by decide +kernel
theorem kX5_price_6 : zD cX5_price 6 7 (.iadd) 1 := by decide +kernel
theorem kX5_price_7 : zD cX5_price 7 8 (.ireturn) 1 := by decide +kernel
set_option maxRecDepth 10000 in
theorem wX5_price_0 {G : ZG} {d : Nat} {h : ZH} {Q : Option ZV → ZH → Prop} {i0 : Nat} {x1 : Int32} (hi0 : i0 < zcnt 4)
  (H : Q (some (zi (((2 : Int32) + 3) + x1))) h) :
  zT G (d + 3) mX5_price 0 [zr 4 i0, zi x1] [] h Q := by
  refine zt_aload_n kX5_price_0 rfl ?_
  refine zt_iload_n kX5_price_1 rfl ?_
  refine zt_cU (as := [zi x1]) kX5_price_2 sRX5_14 (zcl4 hi0) rfl hi0 rfl (by simp) rfl (sX0_price _ hi0 ) (fun r h0 hq => ?_)
  obtain ⟨rfl, hh⟩ := hq
  replace hh := hh.symm
  subst hh
  refine zt_iload_n kX5_price_5 rfl ?_
  refine zt_iadd kX5_price_6 ?_
  exact zt_iret kX5_price_7 rfl H

theorem kX9_bears_0 : zD cX9_bears 0 1 (.aload_n 0) 1 := by decide +kernel
theorem kX9_bears_1 : zD cX9_bears 1 2 (.iload_n 1) 1 := by decide +kernel
theorem kX9_bears_2 : zD cX9_bears 2 5 (.invokespecial 7) 3 := by decide +kernel
theorem kX9_bears_5 : zD cX9_bears 5 6 (.iload_n 1) 1 := by decide +kernel
theorem kX9_bears_6 : zD cX9_bears 6 7 (.isub) 1 := by decide +kernel
theorem kX9_bears_7 : zD cX9_bears 7 8 (.ireturn) 1 := by decide +kernel
set_option maxRecDepth 10000 in
theorem wX9_bears_0 {G : ZG} {d : Nat} {h : ZH} {Q : Option ZV → ZH → Prop} {i0 : Nat} {x1 : Int32} (hi0 : i0 < zcnt 4)
  (H : Q (some (zi (((2 : Int32) * 20) - x1))) h) :
  zT G (d + 3) mX9_bears 0 [zr 4 i0, zi x1] [] h Q := by
  refine zt_aload_n kX9_bears_0 rfl ?_
  refine zt_iload_n kX9_bears_1 rfl ?_
  refine zt_cU (as := [zi x1]) kX9_bears_2 sRX9_7 (zcl4 hi0) rfl hi0 rfl (by simp) rfl (sX2_bears _ hi0 ) (fun r h0 hq => ?_)
  obtain ⟨rfl, hh⟩ := hq
  replace hh := hh.symm
  subst hh
  refine zt_iload_n kX9_bears_5 rfl ?_
  refine zt_isub kX9_bears_6 ?_
  exact zt_iret kX9_bears_7 rfl H

theorem kX9_price_0 : zD cX9_price 0 1 (.iconst 2) 1 := by decide +kernel
theorem kX9_price_1 : zD cX9_price 1 2 (.aload_n 0) 1 := by decide +kernel
theorem kX9_price_2 : zD cX9_price 2 3 (.iload_n 1) 1 := by decide +kernel
theorem kX9_price_3 : zD cX9_price 3 6 (.invokespecial 11) 3 := by decide +kernel
theorem kX9_price_6 : zD cX9_price 6 7 (.imul) 1 := by decide +kernel
theorem kX9_price_7 : zD cX9_price 7 8 (.ireturn) 1 := by decide +kernel
set_option maxRecDepth 10000 in
theorem wX9_price_0 {G : ZG} {d : Nat} {h : ZH} {Q : Option ZV → ZH → Prop} {i0 : Nat} {x1 : Int32} (hi0 : i0 < zcnt 4)
  (H : Q (some (zi (2 * (2 + x1)))) h) :
  zT G (d + 3) mX9_price 0 [zr 4 i0, zi x1] [] h Q := by
  refine zt_iconst (v := 2) kX9_price_0 rfl ?_
  refine zt_aload_n kX9_price_1 rfl ?_
  refine zt_iload_n kX9_price_2 rfl ?_
  refine zt_cU (as := [zi x1]) kX9_price_3 sRX9_11 (zcl4 hi0) rfl hi0 rfl (by simp) rfl (sX2_price _ hi0 ) (fun r h0 hq => ?_)
  obtain ⟨rfl, hh⟩ := hq
  replace hh := hh.symm
  subst hh
  refine zt_imul kX9_price_6 ?_
  exact zt_iret kX9_price_7 rfl H

theorem kX1_weight_0 : zD cX1_weight 0 1 (.iconst 2) 1 := by decide +kernel
theorem kX1_weight_1 : zD cX1_weight 1 2 (.aload_n 0) 1 := by decide +kernel
theorem kX1_weight_2 : zD cX1_weight 2 3 (.iload_n 1) 1 := by decide +kernel
theorem kX1_weight_3 : zD cX1_weight 3 6 (.invokespecial 9) 3 := by decide +kernel
theorem kX1_weight_6 : zD cX1_weight 6 7 (.imul) 1 := by decide +kernel
theorem kX1_weight_7 : zD cX1_weight 7 8 (.ireturn) 1 := by decide +kernel
set_option maxRecDepth 10000 in
theorem wX1_weight_0 {G : ZG} {d : Nat} {h : ZH} {Q : Option ZV → ZH → Prop} {i0 : Nat} {x1 : Int32} (hi0 : i0 < zcnt 4)
  (H : Q (some (zi (2 * (2 + x1 - 1)))) h) :
  zT G (d + 3) mX1_weight 0 [zr 4 i0, zi x1] [] h Q := by
  refine zt_iconst (v := 2) kX1_weight_0 rfl ?_
  refine zt_aload_n kX1_weight_1 rfl ?_
  refine zt_iload_n kX1_weight_2 rfl ?_
  refine zt_cU (as := [zi x1]) kX1_weight_3 sRX1_9 (zcl4 hi0) rfl hi0 rfl (by simp) rfl (sX0_weight _ hi0 ) (fun r h0 hq => ?_)
  obtain ⟨rfl, hh⟩ := hq
  replace hh := hh.symm
  subst hh
  refine zt_imul kX1_weight_6 ?_
  exact zt_iret kX1_weight_7 rfl H

theorem kX1_bears_0 : zD cX1_bears 0 1 (.aload_n 0) 1 := by decide +kernel
theorem kX1_bears_1 : zD cX1_bears 1 2 (.iload_n 1) 1 := by decide +kernel
theorem kX1_bears_2 : zD cX1_bears 2 5 (.invokespecial 13) 3 := by decide +kernel
theorem kX1_bears_5 : zD cX1_bears 5 6 (.iconst 2) 1 := by decide +kernel
theorem kX1_bears_6 : zD cX1_bears 6 7 (.idiv) 1 := by decide +kernel
theorem kX1_bears_7 : zD cX1_bears 7 8 (.ireturn) 1 := by decide +kernel
set_option maxRecDepth 10000 in
theorem wX1_bears_0 {G : ZG} {d : Nat} {h : ZH} {Q : Option ZV → ZH → Prop} {i0 : Nat} {x1 : Int32} (hi0 : i0 < zcnt 4)
  (H : Q (some (zi (((20 : Int32) - 8) / 2))) h) :
  zT G (d + 3) mX1_bears 0 [zr 4 i0, zi x1] [] h Q := by
  refine zt_aload_n kX1_bears_0 rfl ?_
  refine zt_iload_n kX1_bears_1 rfl ?_
  refine zt_cU (as := [zi x1]) kX1_bears_2 sRX1_13 (zcl4 hi0) rfl hi0 rfl (by simp) rfl (sX0_bears _ hi0 ) (fun r h0 hq => ?_)
  obtain ⟨rfl, hh⟩ := hq
  replace hh := hh.symm
  subst hh
  refine zt_iconst (v := 2) kX1_bears_5 rfl ?_
  refine zt_idiv kX1_bears_6 (by decide) ?_
  exact zt_iret kX1_bears_7 rfl H

theorem kX1_price_0 : zD cX1_price 0 1 (.aload_n 0) 1 := by decide +kernel
theorem kX1_price_1 : zD cX1_price 1 2 (.iload_n 1) 1 := by decide +kernel
theorem kX1_price_2 : zD cX1_price 2 5 (.invokespecial 16) 3 := by decide +kernel
theorem kX1_price_5 : zD cX1_price 5 6 (.iconst 2) 1 := by decide +kernel
theorem kX1_price_6 : zD cX1_price 6 7 (.idiv) 1 := by decide +kernel
theorem kX1_price_7 : zD cX1_price 7 8 (.ireturn) 1 := by decide +kernel
set_option maxRecDepth 10000 in
theorem wX1_price_0 {G : ZG} {d : Nat} {h : ZH} {Q : Option ZV → ZH → Prop} {i0 : Nat} {x1 : Int32} (hi0 : i0 < zcnt 4)
  (H : Q (some (zi (((2 : Int32) + 3) / 2))) h) :
  zT G (d + 3) mX1_price 0 [zr 4 i0, zi x1] [] h Q := by
  refine zt_aload_n kX1_price_0 rfl ?_
  refine zt_iload_n kX1_price_1 rfl ?_
  refine zt_cU (as := [zi x1]) kX1_price_2 sRX1_16 (zcl4 hi0) rfl hi0 rfl (by simp) rfl (sX0_price _ hi0 ) (fun r h0 hq => ?_)
  obtain ⟨rfl, hh⟩ := hq
  replace hh := hh.symm
  subst hh
  refine zt_iconst (v := 2) kX1_price_5 rfl ?_
  refine zt_idiv kX1_price_6 (by decide) ?_
  exact zt_iret kX1_price_7 rfl H

