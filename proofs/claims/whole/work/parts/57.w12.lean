/-! ===== the bytecode of these methods, walked (by program): X11_lays X11_takes X11_props X11_image X11_restore X11_keep X11_row X11_put X8_holdRow X11_copy X12_lays X12_takes X12_props X12_image X12_restore X12_keep X12_row X12_put X12_copy X12_element ===== -/
theorem kX11_lays_0 : zD cX11_lays 0 1 (.iload_n 2) 1 := by decide +kernel
theorem kX11_lays_1 : zD cX11_lays 1 4 (.invokestatic 86) 3 := by decide +kernel
theorem kX11_lays_4 : zB cX11_lays 4 7 9 (.ifCond .ne 5) 5 := by decide +kernel
theorem kX11_lays_7 : zD cX11_lays 7 8 (.iconst (-1)) 1 := by decide +kernel
theorem kX11_lays_8 : zD cX11_lays 8 9 (.ireturn) 1 := by decide +kernel
theorem kX11_lays_9 : zD cX11_lays 9 10 (.aload_n 0) 1 := by decide +kernel
theorem kX11_lays_10 : zD cX11_lays 10 11 (.iload_n 1) 1 := by decide +kernel
theorem kX11_lays_11 : zD cX11_lays 11 14 (.invokevirtual 114) 3 := by decide +kernel
theorem kX11_lays_14 : zD cX11_lays 14 15 (.istore_n 3) 1 := by decide +kernel
theorem kX11_lays_15 : zD cX11_lays 15 16 (.iload_n 3) 1 := by decide +kernel
theorem kX11_lays_16 : zB cX11_lays 16 19 21 (.ifCond .eq 5) 5 := by decide +kernel
theorem kX11_lays_19 : zD cX11_lays 19 20 (.iload_n 3) 1 := by decide +kernel
theorem kX11_lays_20 : zD cX11_lays 20 21 (.ireturn) 1 := by decide +kernel
theorem kX11_lays_21 : zD cX11_lays 21 22 (.aload_n 0) 1 := by decide +kernel
theorem kX11_lays_22 : zD cX11_lays 22 25 (.getfield 48) 3 := by decide +kernel
theorem kX11_lays_25 : zD cX11_lays 25 26 (.iload_n 2) 1 := by decide +kernel
theorem kX11_lays_26 : zD cX11_lays 26 29 (.invokevirtual 90) 3 := by decide +kernel
theorem kX11_lays_29 : zB cX11_lays 29 32 35 (.ifCond .eq 6) 6 := by decide +kernel
theorem kX11_lays_32 : zD cX11_lays 32 34 (.bipush (-2)) 2 := by decide +kernel
theorem kX11_lays_34 : zD cX11_lays 34 35 (.ireturn) 1 := by decide +kernel
theorem kX11_lays_35 : zD cX11_lays 35 36 (.aload_n 0) 1 := by decide +kernel
theorem kX11_lays_36 : zD cX11_lays 36 39 (.getfield 62) 3 := by decide +kernel
theorem kX11_lays_39 : zD cX11_lays 39 40 (.iload_n 1) 1 := by decide +kernel
theorem kX11_lays_40 : zD cX11_lays 40 41 (.aaload) 1 := by decide +kernel
theorem kX11_lays_41 : zD cX11_lays 41 43 (.astore 4) 2 := by decide +kernel
theorem kX11_lays_43 : zD cX11_lays 43 44 (.aload_n 0) 1 := by decide +kernel
theorem kX11_lays_44 : zD cX11_lays 44 47 (.getfield 48) 3 := by decide +kernel
theorem kX11_lays_47 : zD cX11_lays 47 48 (.iload_n 2) 1 := by decide +kernel
theorem kX11_lays_48 : zD cX11_lays 48 50 (.aload 4) 2 := by decide +kernel
theorem kX11_lays_50 : zD cX11_lays 50 53 (.getfield 117) 3 := by decide +kernel
theorem kX11_lays_53 : zD cX11_lays 53 55 (.aload 4) 2 := by decide +kernel
theorem kX11_lays_55 : zD cX11_lays 55 58 (.getfield 120) 3 := by decide +kernel
theorem kX11_lays_58 : zD cX11_lays 58 59 (.aload_n 0) 1 := by decide +kernel
theorem kX11_lays_59 : zD cX11_lays 59 62 (.getfield 33) 3 := by decide +kernel
theorem kX11_lays_62 : zD cX11_lays 62 64 (.aload 4) 2 := by decide +kernel
theorem kX11_lays_64 : zD cX11_lays 64 67 (.getfield 117) 3 := by decide +kernel
theorem kX11_lays_67 : zD cX11_lays 67 68 (.aaload) 1 := by decide +kernel
theorem kX11_lays_68 : zD cX11_lays 68 71 (.invokevirtual 123) 3 := by decide +kernel
theorem kX11_lays_71 : zD cX11_lays 71 72 (.ireturn) 1 := by decide +kernel
set_option maxRecDepth 10000 in
theorem wX11_lays_0 {G : ZG} {d : Nat} {h : ZH} {Q : Option ZV → ZH → Prop} {x1 : Int32} {x2 : Int32} 
  (H : ((0 ≤ x2 ∧ x2 ≤ 11) → ((kindRefI h x1) = 0 → (¬ (hasI (h.1 2 0 6) x2) → vp_in x1 8 ∧ vp_in (h.1 3 (x1.toNatClampNeg) 1) 8 ∧ zC G (d + 5) mX4_lay [zr 2 0, zi x2, zi (h.1 3 (x1.toNatClampNeg) 1), zi (h.1 3 (x1.toNatClampNeg) 2), zr 4 ((h.1 3 (x1.toNatClampNeg) 1).toNatClampNeg)] h (fun r4 h3 => ∃ y5 : Int32, r4 = some (zi y5) ∧ Q (some (zi y5)) h3)) ∧ ((hasI (h.1 2 0 6) x2) → Q (some (zi (-2))) h)) ∧ (¬ (kindRefI h x1) = 0 → Q (some (zi (kindRefI h x1))) h)) ∧ (¬ (0 ≤ x2 ∧ x2 ≤ 11) → Q (some (zi (-1))) h)) :
  zT G (d + 6) mX11_lays 0 [zr 0 0, zi x1, zi x2, zu, zu] [] h Q := by
  refine zt_iload_n kX11_lays_0 rfl ?_
  refine zt_cS (as := [zi x2]) kX11_lays_1 sRX11_86 rfl (by simp) rfl (sX11_isPlace _  ) (fun r h0 hq => ?_)
  obtain ⟨rfl, hh⟩ := hq
  replace hh := hh.symm
  subst hh
  refine zt_ifb_ne kX11_lays_4 (fun c => ?_) (fun c => ?_)
  · replace H := H.1 c
    refine zt_aload_n kX11_lays_9 rfl ?_
    refine zt_iload_n kX11_lays_10 rfl ?_
    refine zt_cV (as := [zi x1]) kX11_lays_11 sRX11_114 rfl (by decide) rfl (by simp) rfl (sX11_kindRefused _  ) (fun r h0 hq => ?_)
    obtain ⟨rfl, hh⟩ := hq
    replace hh := hh.symm
    subst hh
    refine zt_istore_n (L' := [zr 0 0, zi x1, zi x2, zi (kindRefI h x1), zu]) kX11_lays_14 (by decide) rfl ?_
    refine zt_iload_n kX11_lays_15 rfl ?_
    refine zt_if_eq kX11_lays_16 (fun c => ?_) (fun c => ?_)
    · replace H := H.1 c
      refine zt_aload_n kX11_lays_21 rfl ?_
      refine zt_get (v := zr 2 0) kX11_lays_22 fRX11_48 rfl (by decide) rfl ?_
      refine zt_iload_n kX11_lays_25 rfl ?_
      refine zt_cV (as := [zi x2]) kX11_lays_26 sRX11_90 rfl (by decide) rfl (by simp) rfl (sX4_holds _ (by decide) ) (fun r h0 hq => ?_)
      obtain ⟨rfl, hh⟩ := hq
      replace hh := hh.symm
      subst hh
      refine zt_ifb_eq kX11_lays_29 (fun c => ?_) (fun c => ?_)
      · replace H := H.1 c
        refine zt_aload_n kX11_lays_35 rfl ?_
        refine zt_get (v := zr 22 0) kX11_lays_36 fRX11_62 rfl (by decide) rfl ?_
        refine zt_iload_n kX11_lays_39 rfl ?_
        obtain ⟨hv1, H⟩ := H
        refine zt_aaldH kX11_lays_40 hv1 ?_
        refine zt_astore (L' := [zr 0 0, zi x1, zi x2, zi (kindRefI h x1), zr 3 (x1.toNatClampNeg)]) kX11_lays_41 (by decide) rfl ?_
        refine zt_aload_n kX11_lays_43 rfl ?_
        refine zt_get (v := zr 2 0) kX11_lays_44 fRX11_48 rfl (by decide) rfl ?_
        refine zt_iload_n kX11_lays_47 rfl ?_
        refine zt_aload kX11_lays_48 rfl ?_
        refine zt_get (v := zi (h.1 3 (x1.toNatClampNeg) 1)) kX11_lays_50 fRX11_117 rfl (zok3 hv1) rfl ?_
        refine zt_aload kX11_lays_53 rfl ?_
        refine zt_get (v := zi (h.1 3 (x1.toNatClampNeg) 2)) kX11_lays_55 fRX11_120 rfl (zok3 hv1) rfl ?_
        refine zt_aload_n kX11_lays_58 rfl ?_
        refine zt_get (v := zr 21 0) kX11_lays_59 fRX11_33 rfl (by decide) rfl ?_
        refine zt_aload kX11_lays_62 rfl ?_
        refine zt_get (v := zi (h.1 3 (x1.toNatClampNeg) 1)) kX11_lays_64 fRX11_117 rfl (zok3 hv1) rfl ?_
        obtain ⟨hv2, H⟩ := H
        refine zt_aaldS kX11_lays_67 hv2 ?_
        refine zt_cV (as := [zi x2, zi (h.1 3 (x1.toNatClampNeg) 1), zi (h.1 3 (x1.toNatClampNeg) 2), zr 4 ((h.1 3 (x1.toNatClampNeg) 1).toNatClampNeg)]) kX11_lays_68 sRX11_123 rfl (by decide) rfl (by simp) rfl H (fun r4 h3 H => ?_)
        obtain ⟨y5, rfl, H⟩ := H
        exact zt_iret kX11_lays_71 rfl H
      · replace H := H.2 c
        refine zt_bipush (v := (-2)) kX11_lays_32 rfl ?_
        exact zt_iret kX11_lays_34 rfl H
    · replace H := H.2 c
      refine zt_iload_n kX11_lays_19 rfl ?_
      exact zt_iret kX11_lays_20 rfl H
  · replace H := H.2 c
    refine zt_iconst (v := (-1)) kX11_lays_7 rfl ?_
    exact zt_iret kX11_lays_8 rfl H

theorem kX11_takes_0 : zD cX11_takes 0 1 (.aload_n 0) 1 := by decide +kernel
theorem kX11_takes_1 : zD cX11_takes 1 2 (.iload_n 1) 1 := by decide +kernel
theorem kX11_takes_2 : zD cX11_takes 2 5 (.invokevirtual 127) 3 := by decide +kernel
theorem kX11_takes_5 : zD cX11_takes 5 6 (.istore_n 2) 1 := by decide +kernel
theorem kX11_takes_6 : zD cX11_takes 6 7 (.iload_n 2) 1 := by decide +kernel
theorem kX11_takes_7 : zB cX11_takes 7 10 14 (.ifCond .eq 7) 7 := by decide +kernel
theorem kX11_takes_10 : zD cX11_takes 10 11 (.iload_n 2) 1 := by decide +kernel
theorem kX11_takes_11 : zB cX11_takes 11 14 22 (.goto 11) 11 := by decide +kernel
theorem kX11_takes_14 : zD cX11_takes 14 15 (.aload_n 0) 1 := by decide +kernel
theorem kX11_takes_15 : zD cX11_takes 15 18 (.getfield 48) 3 := by decide +kernel
theorem kX11_takes_18 : zD cX11_takes 18 19 (.iload_n 1) 1 := by decide +kernel
theorem kX11_takes_19 : zD cX11_takes 19 22 (.invokevirtual 130) 3 := by decide +kernel
theorem kX11_takes_22 : zD cX11_takes 22 23 (.ireturn) 1 := by decide +kernel
set_option maxRecDepth 10000 in
theorem wX11_takes_0 {G : ZG} {d : Nat} {h : ZH} {Q : Option ZV → ZH → Prop} {x1 : Int32} 
  (H : ((stRefI h x1) = 0 → zC G (d + 5) mX4_takeOut [zr 2 0, zi x1] h (fun r2 h1 => ∃ y3 : Int32, r2 = some (zi y3) ∧ Q (some (zi y3)) h1)) ∧ (¬ (stRefI h x1) = 0 → Q (some (zi (stRefI h x1))) h)) :
  zT G (d + 6) mX11_takes 0 [zr 0 0, zi x1, zu] [] h Q := by
  refine zt_aload_n kX11_takes_0 rfl ?_
  refine zt_iload_n kX11_takes_1 rfl ?_
  refine zt_cV (as := [zi x1]) kX11_takes_2 sRX11_127 rfl (by decide) rfl (by simp) rfl (sX11_stoneRefused _  ) (fun r h0 hq => ?_)
  obtain ⟨rfl, hh⟩ := hq
  replace hh := hh.symm
  subst hh
  refine zt_istore_n (L' := [zr 0 0, zi x1, zi (stRefI h x1)]) kX11_takes_5 (by decide) rfl ?_
  refine zt_iload_n kX11_takes_6 rfl ?_
  refine zt_if_eq kX11_takes_7 (fun c => ?_) (fun c => ?_)
  · replace H := H.1 c
    refine zt_aload_n kX11_takes_14 rfl ?_
    refine zt_get (v := zr 2 0) kX11_takes_15 fRX11_48 rfl (by decide) rfl ?_
    refine zt_iload_n kX11_takes_18 rfl ?_
    refine zt_cV (as := [zi x1]) kX11_takes_19 sRX11_130 rfl (by decide) rfl (by simp) rfl H (fun r2 h1 H => ?_)
    obtain ⟨y3, rfl, H⟩ := H
    exact zt_iret kX11_takes_22 rfl H
  · replace H := H.2 c
    refine zt_iload_n kX11_takes_10 rfl ?_
    refine zt_goto kX11_takes_11 ?_
    exact zt_iret kX11_takes_22 rfl H

theorem kX11_props_0 : zD cX11_props 0 1 (.iload_n 1) 1 := by decide +kernel
theorem kX11_props_1 : zD cX11_props 1 4 (.invokestatic 86) 3 := by decide +kernel
theorem kX11_props_4 : zB cX11_props 4 7 18 (.ifCond .eq 14) 14 := by decide +kernel
theorem kX11_props_7 : zD cX11_props 7 8 (.aload_n 0) 1 := by decide +kernel
theorem kX11_props_8 : zD cX11_props 8 11 (.getfield 48) 3 := by decide +kernel
theorem kX11_props_11 : zD cX11_props 11 12 (.iload_n 1) 1 := by decide +kernel
theorem kX11_props_12 : zD cX11_props 12 15 (.invokevirtual 133) 3 := by decide +kernel
theorem kX11_props_15 : zB cX11_props 15 18 19 (.goto 4) 4 := by decide +kernel
theorem kX11_props_18 : zD cX11_props 18 19 (.iconst (-1)) 1 := by decide +kernel
theorem kX11_props_19 : zD cX11_props 19 20 (.ireturn) 1 := by decide +kernel
set_option maxRecDepth 10000 in
theorem wX11_props_0 {G : ZG} {d : Nat} {h : ZH} {Q : Option ZV → ZH → Prop} {x1 : Int32} 
  (H : (¬ (0 ≤ x1 ∧ x1 ≤ 11) → Q (some (zi (-1))) h) ∧ ((0 ≤ x1 ∧ x1 ≤ 11) → zC G (d + 5) mX4_turnProp [zr 2 0, zi x1] h (fun r2 h1 => ∃ y3 : Int32, r2 = some (zi y3) ∧ Q (some (zi y3)) h1))) :
  zT G (d + 6) mX11_props 0 [zr 0 0, zi x1] [] h Q := by
  refine zt_iload_n kX11_props_0 rfl ?_
  refine zt_cS (as := [zi x1]) kX11_props_1 sRX11_86 rfl (by simp) rfl (sX11_isPlace _  ) (fun r h0 hq => ?_)
  obtain ⟨rfl, hh⟩ := hq
  replace hh := hh.symm
  subst hh
  refine zt_ifb_eq kX11_props_4 (fun c => ?_) (fun c => ?_)
  · replace H := H.1 c
    refine zt_iconst (v := (-1)) kX11_props_18 rfl ?_
    exact zt_iret kX11_props_19 rfl H
  · replace H := H.2 c
    refine zt_aload_n kX11_props_7 rfl ?_
    refine zt_get (v := zr 2 0) kX11_props_8 fRX11_48 rfl (by decide) rfl ?_
    refine zt_iload_n kX11_props_11 rfl ?_
    refine zt_cV (as := [zi x1]) kX11_props_12 sRX11_133 rfl (by decide) rfl (by simp) rfl H (fun r2 h1 H => ?_)
    obtain ⟨y3, rfl, H⟩ := H
    refine zt_goto kX11_props_15 ?_
    exact zt_iret kX11_props_19 rfl H

theorem kX11_image_0 : zD cX11_image 0 1 (.aload_n 0) 1 := by decide +kernel
theorem kX11_image_1 : zD cX11_image 1 4 (.getfield 54) 3 := by decide +kernel
theorem kX11_image_4 : zD cX11_image 4 5 (.aload_n 0) 1 := by decide +kernel
theorem kX11_image_5 : zD cX11_image 5 8 (.getfield 48) 3 := by decide +kernel
theorem kX11_image_8 : zD cX11_image 8 11 (.invokevirtual 269) 3 := by decide +kernel
theorem kX11_image_11 : zD cX11_image 11 12 (.aload_n 0) 1 := by decide +kernel
theorem kX11_image_12 : zD cX11_image 12 13 (.iconst 1) 1 := by decide +kernel
theorem kX11_image_13 : zD cX11_image 13 16 (.putfield 66) 3 := by decide +kernel
theorem kX11_image_16 : zD cX11_image 16 17 (.aload_n 0) 1 := by decide +kernel
theorem kX11_image_17 : zD cX11_image 17 20 (.getfield 48) 3 := by decide +kernel
theorem kX11_image_20 : zD cX11_image 20 23 (.getfield 136) 3 := by decide +kernel
theorem kX11_image_23 : zD cX11_image 23 26 (.invokestatic 145) 3 := by decide +kernel
theorem kX11_image_26 : zD cX11_image 26 27 (.ireturn) 1 := by decide +kernel
set_option maxRecDepth 10000 in
theorem wX11_image_0 {G : ZG} {d : Nat} {h : ZH} {Q : Option ZV → ZH → Prop}  
  (H : zC G (d + 1) mX4_becomeAs [zr 2 1, zr 2 0] h (fun r2 h1 => r2 = none ∧ ∀ h3 : ZH, h3 = zs1 h1 0 0 6 1 → Q (some (zi (bcI (h3.1 2 0 6)))) h3)) :
  zT G (d + 2) mX11_image 0 [zr 0 0] [] h Q := by
  refine zt_aload_n kX11_image_0 rfl ?_
  refine zt_get (v := zr 2 1) kX11_image_1 fRX11_54 rfl (by decide) rfl ?_
  refine zt_aload_n kX11_image_4 rfl ?_
  refine zt_get (v := zr 2 0) kX11_image_5 fRX11_48 rfl (by decide) rfl ?_
  refine zt_cV (as := [zr 2 0]) kX11_image_8 sRX11_269 rfl (by decide) rfl (by simp) rfl H (fun r2 h1 H => ?_)
  obtain ⟨rfl, H⟩ := H
  refine zt_aload_n kX11_image_11 rfl ?_
  refine zt_iconst (v := 1) kX11_image_12 rfl ?_
  refine zt_putz kX11_image_13 fRX11_66 pRX11_6 rfl (by decide) rfl (by decide) ?_
  refine zt_heap (fun h3 eh3 => ?_)
  replace H := H h3 eh3
  refine zt_aload_n kX11_image_16 rfl ?_
  refine zt_get (v := zr 2 0) kX11_image_17 fRX11_48 rfl (by decide) rfl ?_
  refine zt_get (v := zi (h3.1 2 0 6)) kX11_image_20 fRX11_136 rfl (by decide) rfl ?_
  refine zt_cS (as := [zi (h3.1 2 0 6)]) kX11_image_23 sRX11_145 rfl (by simp) rfl (sJ6_bitCount_0f7a4 _  ) (fun r h0 hq => ?_)
  obtain ⟨rfl, hh⟩ := hq
  replace hh := hh.symm
  subst hh
  exact zt_iret kX11_image_26 rfl H

theorem kX11_restore_0 : zD cX11_restore 0 1 (.aload_n 0) 1 := by decide +kernel
theorem kX11_restore_1 : zD cX11_restore 1 4 (.getfield 66) 3 := by decide +kernel
theorem kX11_restore_4 : zB cX11_restore 4 7 10 (.ifCond .ne 6) 6 := by decide +kernel
theorem kX11_restore_7 : zD cX11_restore 7 9 (.bipush (-3)) 2 := by decide +kernel
theorem kX11_restore_9 : zD cX11_restore 9 10 (.ireturn) 1 := by decide +kernel
theorem kX11_restore_10 : zD cX11_restore 10 11 (.aload_n 0) 1 := by decide +kernel
theorem kX11_restore_11 : zD cX11_restore 11 14 (.getfield 48) 3 := by decide +kernel
theorem kX11_restore_14 : zD cX11_restore 14 15 (.aload_n 0) 1 := by decide +kernel
theorem kX11_restore_15 : zD cX11_restore 15 18 (.getfield 54) 3 := by decide +kernel
theorem kX11_restore_18 : zD cX11_restore 18 21 (.invokevirtual 269) 3 := by decide +kernel
theorem kX11_restore_21 : zD cX11_restore 21 22 (.aload_n 0) 1 := by decide +kernel
theorem kX11_restore_22 : zD cX11_restore 22 25 (.getfield 48) 3 := by decide +kernel
theorem kX11_restore_25 : zD cX11_restore 25 28 (.getfield 136) 3 := by decide +kernel
theorem kX11_restore_28 : zD cX11_restore 28 31 (.invokestatic 145) 3 := by decide +kernel
theorem kX11_restore_31 : zD cX11_restore 31 32 (.ireturn) 1 := by decide +kernel
set_option maxRecDepth 10000 in
theorem wX11_restore_0 {G : ZG} {d : Nat} {h : ZH} {Q : Option ZV → ZH → Prop}  
  (H : (¬ (h.1 0 0 6) = 0 → zC G (d + 1) mX4_becomeAs [zr 2 0, zr 2 1] h (fun r2 h1 => r2 = none ∧ Q (some (zi (bcI (h1.1 2 0 6)))) h1)) ∧ ((h.1 0 0 6) = 0 → Q (some (zi (-3))) h)) :
  zT G (d + 2) mX11_restore 0 [zr 0 0] [] h Q := by
  refine zt_aload_n kX11_restore_0 rfl ?_
  refine zt_get (v := zi (h.1 0 0 6)) kX11_restore_1 fRX11_66 rfl (by decide) rfl ?_
  refine zt_if_ne kX11_restore_4 (fun c => ?_) (fun c => ?_)
  · replace H := H.1 c
    refine zt_aload_n kX11_restore_10 rfl ?_
    refine zt_get (v := zr 2 0) kX11_restore_11 fRX11_48 rfl (by decide) rfl ?_
    refine zt_aload_n kX11_restore_14 rfl ?_
    refine zt_get (v := zr 2 1) kX11_restore_15 fRX11_54 rfl (by decide) rfl ?_
    refine zt_cV (as := [zr 2 1]) kX11_restore_18 sRX11_269 rfl (by decide) rfl (by simp) rfl H (fun r2 h1 H => ?_)
    obtain ⟨rfl, H⟩ := H
    refine zt_aload_n kX11_restore_21 rfl ?_
    refine zt_get (v := zr 2 0) kX11_restore_22 fRX11_48 rfl (by decide) rfl ?_
    refine zt_get (v := zi (h1.1 2 0 6)) kX11_restore_25 fRX11_136 rfl (by decide) rfl ?_
    refine zt_cS (as := [zi (h1.1 2 0 6)]) kX11_restore_28 sRX11_145 rfl (by simp) rfl (sJ6_bitCount_0f7a4 _  ) (fun r h0 hq => ?_)
    obtain ⟨rfl, hh⟩ := hq
    replace hh := hh.symm
    subst hh
    exact zt_iret kX11_restore_31 rfl H
  · replace H := H.2 c
    refine zt_bipush (v := (-3)) kX11_restore_7 rfl ?_
    exact zt_iret kX11_restore_9 rfl H

theorem kX11_keep_0 : zD cX11_keep 0 1 (.iload_n 1) 1 := by decide +kernel
theorem kX11_keep_1 : zD cX11_keep 1 4 (.invokestatic 282) 3 := by decide +kernel
theorem kX11_keep_4 : zB cX11_keep 4 7 14 (.ifCond .eq 10) 10 := by decide +kernel
theorem kX11_keep_7 : zD cX11_keep 7 8 (.iload_n 2) 1 := by decide +kernel
theorem kX11_keep_8 : zD cX11_keep 8 11 (.invokestatic 150) 3 := by decide +kernel
theorem kX11_keep_11 : zB cX11_keep 11 14 16 (.ifCond .ne 5) 5 := by decide +kernel
theorem kX11_keep_14 : zD cX11_keep 14 15 (.iconst (-1)) 1 := by decide +kernel
theorem kX11_keep_15 : zD cX11_keep 15 16 (.ireturn) 1 := by decide +kernel
theorem kX11_keep_16 : zD cX11_keep 16 17 (.iload_n 2) 1 := by decide +kernel
theorem kX11_keep_17 : zB cX11_keep 17 20 31 (.ifCond .ne 14) 14 := by decide +kernel
theorem kX11_keep_20 : zD cX11_keep 20 21 (.aload_n 0) 1 := by decide +kernel
theorem kX11_keep_21 : zD cX11_keep 21 24 (.getfield 62) 3 := by decide +kernel
theorem kX11_keep_24 : zD cX11_keep 24 25 (.iload_n 1) 1 := by decide +kernel
theorem kX11_keep_25 : zD cX11_keep 25 26 (.aaload) 1 := by decide +kernel
theorem kX11_keep_26 : zD cX11_keep 26 29 (.invokevirtual 285) 3 := by decide +kernel
theorem kX11_keep_29 : zD cX11_keep 29 30 (.iconst 0) 1 := by decide +kernel
theorem kX11_keep_30 : zD cX11_keep 30 31 (.ireturn) 1 := by decide +kernel
theorem kX11_keep_31 : zD cX11_keep 31 32 (.iload_n 3) 1 := by decide +kernel
theorem kX11_keep_32 : zB cX11_keep 32 35 53 (.ifCond .lt 21) 21 := by decide +kernel
theorem kX11_keep_35 : zD cX11_keep 35 36 (.iload_n 3) 1 := by decide +kernel
theorem kX11_keep_36 : zD cX11_keep 36 38 (.bipush 8) 2 := by decide +kernel
theorem kX11_keep_38 : zB cX11_keep 38 41 53 (.if_icmp .ge 15) 15 := by decide +kernel
theorem kX11_keep_41 : zD cX11_keep 41 43 (.iload 4) 2 := by decide +kernel
theorem kX11_keep_43 : zB cX11_keep 43 46 53 (.ifCond .lt 10) 10 := by decide +kernel
theorem kX11_keep_46 : zD cX11_keep 46 48 (.iload 4) 2 := by decide +kernel
theorem kX11_keep_48 : zD cX11_keep 48 50 (.bipush 10) 2 := by decide +kernel
theorem kX11_keep_50 : zB cX11_keep 50 53 55 (.if_icmp .lt 5) 5 := by decide +kernel
theorem kX11_keep_53 : zD cX11_keep 53 54 (.iconst (-1)) 1 := by decide +kernel
theorem kX11_keep_54 : zD cX11_keep 54 55 (.ireturn) 1 := by decide +kernel
theorem kX11_keep_55 : zD cX11_keep 55 56 (.aload_n 0) 1 := by decide +kernel
theorem kX11_keep_56 : zD cX11_keep 56 59 (.getfield 62) 3 := by decide +kernel
theorem kX11_keep_59 : zD cX11_keep 59 60 (.iload_n 1) 1 := by decide +kernel
theorem kX11_keep_60 : zD cX11_keep 60 61 (.aaload) 1 := by decide +kernel
theorem kX11_keep_61 : zD cX11_keep 61 62 (.iload_n 3) 1 := by decide +kernel
theorem kX11_keep_62 : zD cX11_keep 62 64 (.iload 4) 2 := by decide +kernel
theorem kX11_keep_64 : zD cX11_keep 64 67 (.invokevirtual 288) 3 := by decide +kernel
theorem kX11_keep_67 : zD cX11_keep 67 68 (.iconst 0) 1 := by decide +kernel
theorem kX11_keep_68 : zD cX11_keep 68 69 (.ireturn) 1 := by decide +kernel
set_option maxRecDepth 10000 in
theorem wX11_keep_0 {G : ZG} {d : Nat} {h : ZH} {Q : Option ZV → ZH → Prop} {x1 : Int32} {x2 : Int32} {x3 : Int32} {x4 : Int32} 
  (H : (¬ (0 ≤ x1 ∧ x1 ≤ 7) → Q (some (zi (-1))) h) ∧ ((0 ≤ x1 ∧ x1 ≤ 7) → ((0 ≤ x2 ∧ x2 ≤ 1) → (¬ x2 = 0 → (x3 < 0 → Q (some (zi (-1))) h) ∧ (¬ x3 < 0 → (8 ≤ x3 → Q (some (zi (-1))) h) ∧ (¬ 8 ≤ x3 → (x4 < 0 → Q (some (zi (-1))) h) ∧ (¬ x4 < 0 → (x4 < 10 → vp_in x1 8 ∧ zC G (d + 1) mX8_holdKind [zr 3 (x1.toNatClampNeg), zi x3, zi x4] h (fun r3 h2 => r3 = none ∧ Q (some (zi 0)) h2)) ∧ (¬ x4 < 10 → Q (some (zi (-1))) h))))) ∧ (x2 = 0 → vp_in x1 8 ∧ zC G (d + 1) mX8_clear [zr 3 (x1.toNatClampNeg)] h (fun r6 h5 => r6 = none ∧ Q (some (zi 0)) h5))) ∧ (¬ (0 ≤ x2 ∧ x2 ≤ 1) → Q (some (zi (-1))) h))) :
  zT G (d + 2) mX11_keep 0 [zr 0 0, zi x1, zi x2, zi x3, zi x4] [] h Q := by
  refine zt_iload_n kX11_keep_0 rfl ?_
  refine zt_cS (as := [zi x1]) kX11_keep_1 sRX11_282 rfl (by simp) rfl (sX11_isShelf _  ) (fun r h0 hq => ?_)
  obtain ⟨rfl, hh⟩ := hq
  replace hh := hh.symm
  subst hh
  refine zt_ifb_eq kX11_keep_4 (fun c => ?_) (fun c => ?_)
  · replace H := H.1 c
    refine zt_iconst (v := (-1)) kX11_keep_14 rfl ?_
    exact zt_iret kX11_keep_15 rfl H
  · replace H := H.2 c
    refine zt_iload_n kX11_keep_7 rfl ?_
    refine zt_cS (as := [zi x2]) kX11_keep_8 sRX11_150 rfl (by simp) rfl (sX11_isEither _  ) (fun r h0 hq => ?_)
    obtain ⟨rfl, hh⟩ := hq
    replace hh := hh.symm
    subst hh
    refine zt_ifb_ne kX11_keep_11 (fun c => ?_) (fun c => ?_)
    · replace H := H.1 c
      refine zt_iload_n kX11_keep_16 rfl ?_
      refine zt_if_ne kX11_keep_17 (fun c => ?_) (fun c => ?_)
      · replace H := H.1 c
        refine zt_iload_n kX11_keep_31 rfl ?_
        refine zt_if_lt kX11_keep_32 (fun c => ?_) (fun c => ?_)
        · replace H := H.1 c
          refine zt_iconst (v := (-1)) kX11_keep_53 rfl ?_
          exact zt_iret kX11_keep_54 rfl H
        · replace H := H.2 c
          refine zt_iload_n kX11_keep_35 rfl ?_
          refine zt_bipush (v := 8) kX11_keep_36 rfl ?_
          refine zt_icmp_ge kX11_keep_38 (fun c => ?_) (fun c => ?_)
          · replace H := H.1 c
            refine zt_iconst (v := (-1)) kX11_keep_53 rfl ?_
            exact zt_iret kX11_keep_54 rfl H
          · replace H := H.2 c
            refine zt_iload kX11_keep_41 rfl ?_
            refine zt_if_lt kX11_keep_43 (fun c => ?_) (fun c => ?_)
            · replace H := H.1 c
              refine zt_iconst (v := (-1)) kX11_keep_53 rfl ?_
              exact zt_iret kX11_keep_54 rfl H
            · replace H := H.2 c
              refine zt_iload kX11_keep_46 rfl ?_
              refine zt_bipush (v := 10) kX11_keep_48 rfl ?_
              refine zt_icmp_lt kX11_keep_50 (fun c => ?_) (fun c => ?_)
              · replace H := H.1 c
                refine zt_aload_n kX11_keep_55 rfl ?_
                refine zt_get (v := zr 22 0) kX11_keep_56 fRX11_62 rfl (by decide) rfl ?_
                refine zt_iload_n kX11_keep_59 rfl ?_
                obtain ⟨hv1, H⟩ := H
                refine zt_aaldH kX11_keep_60 hv1 ?_
                refine zt_iload_n kX11_keep_61 rfl ?_
                refine zt_iload kX11_keep_62 rfl ?_
                refine zt_cV (as := [zi x3, zi x4]) kX11_keep_64 sRX11_288 rfl (zok3 hv1) rfl (by simp) rfl H (fun r3 h2 H => ?_)
                obtain ⟨rfl, H⟩ := H
                refine zt_iconst (v := 0) kX11_keep_67 rfl ?_
                exact zt_iret kX11_keep_68 rfl H
              · replace H := H.2 c
                refine zt_iconst (v := (-1)) kX11_keep_53 rfl ?_
                exact zt_iret kX11_keep_54 rfl H
      · replace H := H.2 c
        refine zt_aload_n kX11_keep_20 rfl ?_
        refine zt_get (v := zr 22 0) kX11_keep_21 fRX11_62 rfl (by decide) rfl ?_
        refine zt_iload_n kX11_keep_24 rfl ?_
        obtain ⟨hv4, H⟩ := H
        refine zt_aaldH kX11_keep_25 hv4 ?_
        refine zt_cV (as := []) kX11_keep_26 sRX11_285 rfl (zok3 hv4) rfl (by simp) rfl H (fun r6 h5 H => ?_)
        obtain ⟨rfl, H⟩ := H
        refine zt_iconst (v := 0) kX11_keep_29 rfl ?_
        exact zt_iret kX11_keep_30 rfl H
    · replace H := H.2 c
      refine zt_iconst (v := (-1)) kX11_keep_14 rfl ?_
      exact zt_iret kX11_keep_15 rfl H

theorem kX11_row_0 : zD cX11_row 0 1 (.iload_n 1) 1 := by decide +kernel
theorem kX11_row_1 : zD cX11_row 1 4 (.invokestatic 282) 3 := by decide +kernel
theorem kX11_row_4 : zB cX11_row 4 7 22 (.ifCond .eq 18) 18 := by decide +kernel
theorem kX11_row_7 : zD cX11_row 7 8 (.iload_n 2) 1 := by decide +kernel
theorem kX11_row_8 : zB cX11_row 8 11 22 (.ifCond .lt 14) 14 := by decide +kernel
theorem kX11_row_11 : zD cX11_row 11 12 (.iload_n 2) 1 := by decide +kernel
theorem kX11_row_12 : zD cX11_row 12 13 (.iconst 3) 1 := by decide +kernel
theorem kX11_row_13 : zB cX11_row 13 16 22 (.if_icmp .ge 9) 9 := by decide +kernel
theorem kX11_row_16 : zD cX11_row 16 17 (.iload_n 3) 1 := by decide +kernel
theorem kX11_row_17 : zD cX11_row 17 19 (.bipush 100) 2 := by decide +kernel
theorem kX11_row_19 : zB cX11_row 19 22 24 (.if_icmp .le 5) 5 := by decide +kernel
theorem kX11_row_22 : zD cX11_row 22 23 (.iconst (-1)) 1 := by decide +kernel
theorem kX11_row_23 : zD cX11_row 23 24 (.ireturn) 1 := by decide +kernel
theorem kX11_row_24 : zD cX11_row 24 25 (.iload_n 3) 1 := by decide +kernel
theorem kX11_row_25 : zB cX11_row 25 28 31 (.ifCond .ge 6) 6 := by decide +kernel
theorem kX11_row_28 : zD cX11_row 28 30 (.bipush (-14)) 2 := by decide +kernel
theorem kX11_row_30 : zD cX11_row 30 31 (.ireturn) 1 := by decide +kernel
theorem kX11_row_31 : zD cX11_row 31 32 (.aload_n 0) 1 := by decide +kernel
theorem kX11_row_32 : zD cX11_row 32 35 (.getfield 62) 3 := by decide +kernel
theorem kX11_row_35 : zD cX11_row 35 36 (.iload_n 1) 1 := by decide +kernel
theorem kX11_row_36 : zD cX11_row 36 37 (.aaload) 1 := by decide +kernel
theorem kX11_row_37 : zD cX11_row 37 38 (.iload_n 2) 1 := by decide +kernel
theorem kX11_row_38 : zD cX11_row 38 39 (.iload_n 3) 1 := by decide +kernel
theorem kX11_row_39 : zD cX11_row 39 42 (.invokevirtual 292) 3 := by decide +kernel
theorem kX11_row_42 : zD cX11_row 42 43 (.iconst 0) 1 := by decide +kernel
theorem kX11_row_43 : zD cX11_row 43 44 (.ireturn) 1 := by decide +kernel
set_option maxRecDepth 10000 in
theorem wX11_row_0 {G : ZG} {d : Nat} {h : ZH} {Q : Option ZV → ZH → Prop} {x1 : Int32} {x2 : Int32} {x3 : Int32} 
  (H : (¬ (0 ≤ x1 ∧ x1 ≤ 7) → Q (some (zi (-1))) h) ∧ ((0 ≤ x1 ∧ x1 ≤ 7) → (x2 < 0 → Q (some (zi (-1))) h) ∧ (¬ x2 < 0 → (3 ≤ x2 → Q (some (zi (-1))) h) ∧ (¬ 3 ≤ x2 → (x3 ≤ 100 → (0 ≤ x3 → vp_in x1 8 ∧ zC G (d + 2) mX8_holdRow [zr 3 (x1.toNatClampNeg), zi x2, zi x3] h (fun r3 h2 => r3 = none ∧ Q (some (zi 0)) h2)) ∧ (¬ 0 ≤ x3 → Q (some (zi (-14))) h)) ∧ (¬ x3 ≤ 100 → Q (some (zi (-1))) h))))) :
  zT G (d + 3) mX11_row 0 [zr 0 0, zi x1, zi x2, zi x3] [] h Q := by
  refine zt_iload_n kX11_row_0 rfl ?_
  refine zt_cS (as := [zi x1]) kX11_row_1 sRX11_282 rfl (by simp) rfl (sX11_isShelf _  ) (fun r h0 hq => ?_)
  obtain ⟨rfl, hh⟩ := hq
  replace hh := hh.symm
  subst hh
  refine zt_ifb_eq kX11_row_4 (fun c => ?_) (fun c => ?_)
  · replace H := H.1 c
    refine zt_iconst (v := (-1)) kX11_row_22 rfl ?_
    exact zt_iret kX11_row_23 rfl H
  · replace H := H.2 c
    refine zt_iload_n kX11_row_7 rfl ?_
    refine zt_if_lt kX11_row_8 (fun c => ?_) (fun c => ?_)
    · replace H := H.1 c
      refine zt_iconst (v := (-1)) kX11_row_22 rfl ?_
      exact zt_iret kX11_row_23 rfl H
    · replace H := H.2 c
      refine zt_iload_n kX11_row_11 rfl ?_
      refine zt_iconst (v := 3) kX11_row_12 rfl ?_
      refine zt_icmp_ge kX11_row_13 (fun c => ?_) (fun c => ?_)
      · replace H := H.1 c
        refine zt_iconst (v := (-1)) kX11_row_22 rfl ?_
        exact zt_iret kX11_row_23 rfl H
      · replace H := H.2 c
        refine zt_iload_n kX11_row_16 rfl ?_
        refine zt_bipush (v := 100) kX11_row_17 rfl ?_
        refine zt_icmp_le kX11_row_19 (fun c => ?_) (fun c => ?_)
        · replace H := H.1 c
          refine zt_iload_n kX11_row_24 rfl ?_
          refine zt_if_ge kX11_row_25 (fun c => ?_) (fun c => ?_)
          · replace H := H.1 c
            refine zt_aload_n kX11_row_31 rfl ?_
            refine zt_get (v := zr 22 0) kX11_row_32 fRX11_62 rfl (by decide) rfl ?_
            refine zt_iload_n kX11_row_35 rfl ?_
            obtain ⟨hv1, H⟩ := H
            refine zt_aaldH kX11_row_36 hv1 ?_
            refine zt_iload_n kX11_row_37 rfl ?_
            refine zt_iload_n kX11_row_38 rfl ?_
            refine zt_cV (as := [zi x2, zi x3]) kX11_row_39 sRX11_292 rfl (zok3 hv1) rfl (by simp) rfl H (fun r3 h2 H => ?_)
            obtain ⟨rfl, H⟩ := H
            refine zt_iconst (v := 0) kX11_row_42 rfl ?_
            exact zt_iret kX11_row_43 rfl H
          · replace H := H.2 c
            refine zt_bipush (v := (-14)) kX11_row_28 rfl ?_
            exact zt_iret kX11_row_30 rfl H
        · replace H := H.2 c
          refine zt_iconst (v := (-1)) kX11_row_22 rfl ?_
          exact zt_iret kX11_row_23 rfl H

theorem kX11_put_0 : zD cX11_put 0 1 (.aload_n 0) 1 := by decide +kernel
theorem kX11_put_1 : zD cX11_put 1 2 (.iload_n 1) 1 := by decide +kernel
theorem kX11_put_2 : zD cX11_put 2 5 (.invokevirtual 71) 3 := by decide +kernel
theorem kX11_put_5 : zD cX11_put 5 7 (.istore 4) 2 := by decide +kernel
theorem kX11_put_7 : zD cX11_put 7 9 (.iload 4) 2 := by decide +kernel
theorem kX11_put_9 : zB cX11_put 9 12 15 (.ifCond .eq 6) 6 := by decide +kernel
theorem kX11_put_12 : zD cX11_put 12 14 (.iload 4) 2 := by decide +kernel
theorem kX11_put_14 : zD cX11_put 14 15 (.ireturn) 1 := by decide +kernel
theorem kX11_put_15 : zD cX11_put 15 16 (.aload_n 0) 1 := by decide +kernel
theorem kX11_put_16 : zD cX11_put 16 19 (.getfield 62) 3 := by decide +kernel
theorem kX11_put_19 : zD cX11_put 19 20 (.iload_n 1) 1 := by decide +kernel
theorem kX11_put_20 : zD cX11_put 20 21 (.aaload) 1 := by decide +kernel
theorem kX11_put_21 : zD cX11_put 21 22 (.iload_n 2) 1 := by decide +kernel
theorem kX11_put_22 : zD cX11_put 22 25 (.invokevirtual 295) 3 := by decide +kernel
theorem kX11_put_25 : zB cX11_put 25 28 31 (.ifCond .ne 6) 6 := by decide +kernel
theorem kX11_put_28 : zD cX11_put 28 30 (.bipush (-13)) 2 := by decide +kernel
theorem kX11_put_30 : zD cX11_put 30 31 (.ireturn) 1 := by decide +kernel
theorem kX11_put_31 : zD cX11_put 31 32 (.aload_n 0) 1 := by decide +kernel
theorem kX11_put_32 : zD cX11_put 32 35 (.getfield 62) 3 := by decide +kernel
theorem kX11_put_35 : zD cX11_put 35 36 (.iload_n 1) 1 := by decide +kernel
theorem kX11_put_36 : zD cX11_put 36 37 (.aaload) 1 := by decide +kernel
theorem kX11_put_37 : zD cX11_put 37 38 (.iload_n 2) 1 := by decide +kernel
theorem kX11_put_38 : zD cX11_put 38 39 (.iload_n 3) 1 := by decide +kernel
theorem kX11_put_39 : zD cX11_put 39 42 (.invokevirtual 298) 3 := by decide +kernel
theorem kX11_put_42 : zD cX11_put 42 43 (.iconst 0) 1 := by decide +kernel
theorem kX11_put_43 : zD cX11_put 43 44 (.ireturn) 1 := by decide +kernel
set_option maxRecDepth 10000 in
theorem wX11_put_0 {G : ZG} {d : Nat} {h : ZH} {Q : Option ZV → ZH → Prop} {x1 : Int32} {x2 : Int32} {x3 : Int32} 
  (H : ((rowRefI h x1) = 0 → vp_in x1 8 ∧ ((0 ≤ x2 ∧ x2 < h.1 3 (x1.toNatClampNeg) 4) → vp_in x1 8 ∧ zC G (d + 2) mX8_write [zr 3 (x1.toNatClampNeg), zi x2, zi x3] h (fun r4 h3 => r4 = none ∧ Q (some (zi 0)) h3)) ∧ (¬ (0 ≤ x2 ∧ x2 < h.1 3 (x1.toNatClampNeg) 4) → Q (some (zi (-13))) h)) ∧ (¬ (rowRefI h x1) = 0 → Q (some (zi (rowRefI h x1))) h)) :
  zT G (d + 3) mX11_put 0 [zr 0 0, zi x1, zi x2, zi x3, zu] [] h Q := by
  refine zt_aload_n kX11_put_0 rfl ?_
  refine zt_iload_n kX11_put_1 rfl ?_
  refine zt_cV (as := [zi x1]) kX11_put_2 sRX11_71 rfl (by decide) rfl (by simp) rfl (sX11_rowRefused _  ) (fun r h0 hq => ?_)
  obtain ⟨rfl, hh⟩ := hq
  replace hh := hh.symm
  subst hh
  refine zt_istore (L' := [zr 0 0, zi x1, zi x2, zi x3, zi (rowRefI h x1)]) kX11_put_5 (by decide) rfl ?_
  refine zt_iload kX11_put_7 rfl ?_
  refine zt_if_eq kX11_put_9 (fun c => ?_) (fun c => ?_)
  · replace H := H.1 c
    refine zt_aload_n kX11_put_15 rfl ?_
    refine zt_get (v := zr 22 0) kX11_put_16 fRX11_62 rfl (by decide) rfl ?_
    refine zt_iload_n kX11_put_19 rfl ?_
    obtain ⟨hv1, H⟩ := H
    refine zt_aaldH kX11_put_20 hv1 ?_
    refine zt_iload_n kX11_put_21 rfl ?_
    refine zt_cV (as := [zi x2]) kX11_put_22 sRX11_295 rfl (zok3 hv1) rfl (by simp) rfl (sX8_hasPlace _ (zok3 hv1) ) (fun r h0 hq => ?_)
    obtain ⟨rfl, hh⟩ := hq
    replace hh := hh.symm
    subst hh
    refine zt_ifb_ne kX11_put_25 (fun c => ?_) (fun c => ?_)
    · replace H := H.1 c
      refine zt_aload_n kX11_put_31 rfl ?_
      refine zt_get (v := zr 22 0) kX11_put_32 fRX11_62 rfl (by decide) rfl ?_
      refine zt_iload_n kX11_put_35 rfl ?_
      obtain ⟨hv2, H⟩ := H
      refine zt_aaldH kX11_put_36 hv2 ?_
      refine zt_iload_n kX11_put_37 rfl ?_
      refine zt_iload_n kX11_put_38 rfl ?_
      refine zt_cV (as := [zi x2, zi x3]) kX11_put_39 sRX11_298 rfl (zok3 hv2) rfl (by simp) rfl H (fun r4 h3 H => ?_)
      obtain ⟨rfl, H⟩ := H
      refine zt_iconst (v := 0) kX11_put_42 rfl ?_
      exact zt_iret kX11_put_43 rfl H
    · replace H := H.2 c
      refine zt_bipush (v := (-13)) kX11_put_28 rfl ?_
      exact zt_iret kX11_put_30 rfl H
  · replace H := H.2 c
    refine zt_iload kX11_put_12 rfl ?_
    exact zt_iret kX11_put_14 rfl H

theorem kX8_holdRow_0 : zD cX8_holdRow 0 1 (.aload_n 0) 1 := by decide +kernel
theorem kX8_holdRow_1 : zD cX8_holdRow 1 2 (.iconst 2) 1 := by decide +kernel
theorem kX8_holdRow_2 : zD cX8_holdRow 2 5 (.putfield 11) 3 := by decide +kernel
theorem kX8_holdRow_5 : zD cX8_holdRow 5 6 (.aload_n 0) 1 := by decide +kernel
theorem kX8_holdRow_6 : zD cX8_holdRow 6 7 (.iload_n 1) 1 := by decide +kernel
theorem kX8_holdRow_7 : zD cX8_holdRow 7 10 (.putfield 21) 3 := by decide +kernel
theorem kX8_holdRow_10 : zD cX8_holdRow 10 11 (.aload_n 0) 1 := by decide +kernel
theorem kX8_holdRow_11 : zD cX8_holdRow 11 12 (.iload_n 2) 1 := by decide +kernel
theorem kX8_holdRow_12 : zD cX8_holdRow 12 15 (.putfield 24) 3 := by decide +kernel
theorem kX8_holdRow_15 : zD cX8_holdRow 15 16 (.aload_n 0) 1 := by decide +kernel
theorem kX8_holdRow_16 : zD cX8_holdRow 16 19 (.getfield 27) 3 := by decide +kernel
theorem kX8_holdRow_19 : zD cX8_holdRow 19 20 (.iconst 0) 1 := by decide +kernel
theorem kX8_holdRow_20 : zD cX8_holdRow 20 23 (.invokestatic 31) 3 := by decide +kernel
theorem kX8_holdRow_23 : zD cX8_holdRow 23 24 (.return_) 1 := by decide +kernel
set_option maxRecDepth 10000 in
theorem wX8_holdRow_0 {G : ZG} {d : Nat} {h : ZH} {Q : Option ZV → ZH → Prop} {i0 : Nat} {x1 : Int32} {x2 : Int32} (hi0 : i0 < zcnt 3)
  (H : ∀ h1 : ZH, h1 = zs1 h 3 i0 0 2 → ∀ h2 : ZH, h2 = zs1 h1 3 i0 3 x1 → ∀ h3 : ZH, h3 = zs1 h2 3 i0 4 x2 → zC G (d + 1) mJ7_fill_53178 [zr 16 i0, zi 0] h3 (fun r5 h4 => r5 = none ∧ Q none h4)) :
  zT G (d + 2) mX8_holdRow 0 [zr 3 i0, zi x1, zi x2] [] h Q := by
  refine zt_aload_n kX8_holdRow_0 rfl ?_
  refine zt_iconst (v := 2) kX8_holdRow_1 rfl ?_
  refine zt_put kX8_holdRow_2 fRX8_11 pRX8_0 rfl hi0 rfl ?_
  refine zt_heap (fun h1 eh1 => ?_)
  replace H := H h1 eh1
  refine zt_aload_n kX8_holdRow_5 rfl ?_
  refine zt_iload_n kX8_holdRow_6 rfl ?_
  refine zt_put kX8_holdRow_7 fRX8_21 pRX8_3 rfl hi0 rfl ?_
  refine zt_heap (fun h2 eh2 => ?_)
  replace H := H h2 eh2
  refine zt_aload_n kX8_holdRow_10 rfl ?_
  refine zt_iload_n kX8_holdRow_11 rfl ?_
  refine zt_put kX8_holdRow_12 fRX8_24 pRX8_4 rfl hi0 rfl ?_
  refine zt_heap (fun h3 eh3 => ?_)
  replace H := H h3 eh3
  refine zt_aload_n kX8_holdRow_15 rfl ?_
  refine zt_get (v := zr 16 i0) kX8_holdRow_16 fRX8_27 rfl hi0 rfl ?_
  refine zt_iconst (v := 0) kX8_holdRow_19 rfl ?_
  refine zt_cS (as := [zr 16 i0, zi 0]) kX8_holdRow_20 sRX8_31 rfl (by simp) rfl H (fun r5 h4 H => ?_)
  obtain ⟨rfl, H⟩ := H
  exact zt_vret kX8_holdRow_23 rfl H

theorem kX11_copy_0 : zD cX11_copy 0 1 (.iload_n 1) 1 := by decide +kernel
theorem kX11_copy_1 : zD cX11_copy 1 4 (.invokestatic 282) 3 := by decide +kernel
theorem kX11_copy_4 : zB cX11_copy 4 7 14 (.ifCond .eq 10) 10 := by decide +kernel
theorem kX11_copy_7 : zD cX11_copy 7 8 (.iload_n 3) 1 := by decide +kernel
theorem kX11_copy_8 : zD cX11_copy 8 11 (.invokestatic 282) 3 := by decide +kernel
theorem kX11_copy_11 : zB cX11_copy 11 14 16 (.ifCond .ne 5) 5 := by decide +kernel
theorem kX11_copy_14 : zD cX11_copy 14 15 (.iconst (-1)) 1 := by decide +kernel
theorem kX11_copy_15 : zD cX11_copy 15 16 (.ireturn) 1 := by decide +kernel
theorem kX11_copy_16 : zD cX11_copy 16 17 (.aload_n 0) 1 := by decide +kernel
theorem kX11_copy_17 : zD cX11_copy 17 20 (.getfield 62) 3 := by decide +kernel
theorem kX11_copy_20 : zD cX11_copy 20 21 (.iload_n 1) 1 := by decide +kernel
theorem kX11_copy_21 : zD cX11_copy 21 22 (.aaload) 1 := by decide +kernel
theorem kX11_copy_22 : zD cX11_copy 22 24 (.astore 6) 2 := by decide +kernel
theorem kX11_copy_24 : zD cX11_copy 24 25 (.aload_n 0) 1 := by decide +kernel
theorem kX11_copy_25 : zD cX11_copy 25 28 (.getfield 62) 3 := by decide +kernel
theorem kX11_copy_28 : zD cX11_copy 28 29 (.iload_n 3) 1 := by decide +kernel
theorem kX11_copy_29 : zD cX11_copy 29 30 (.aaload) 1 := by decide +kernel
theorem kX11_copy_30 : zD cX11_copy 30 32 (.astore 7) 2 := by decide +kernel
theorem kX11_copy_32 : zD cX11_copy 32 34 (.aload 6) 2 := by decide +kernel
theorem kX11_copy_34 : zD cX11_copy 34 37 (.invokevirtual 319) 3 := by decide +kernel
theorem kX11_copy_37 : zB cX11_copy 37 40 48 (.ifCond .ne 11) 11 := by decide +kernel
theorem kX11_copy_40 : zD cX11_copy 40 42 (.aload 7) 2 := by decide +kernel
theorem kX11_copy_42 : zD cX11_copy 42 45 (.invokevirtual 319) 3 := by decide +kernel
theorem kX11_copy_45 : zB cX11_copy 45 48 51 (.ifCond .eq 6) 6 := by decide +kernel
theorem kX11_copy_48 : zD cX11_copy 48 50 (.bipush (-11)) 2 := by decide +kernel
theorem kX11_copy_50 : zD cX11_copy 50 51 (.ireturn) 1 := by decide +kernel
theorem kX11_copy_51 : zD cX11_copy 51 53 (.aload 6) 2 := by decide +kernel
theorem kX11_copy_53 : zD cX11_copy 53 56 (.invokevirtual 308) 3 := by decide +kernel
theorem kX11_copy_56 : zB cX11_copy 56 59 80 (.ifCond .eq 24) 24 := by decide +kernel
theorem kX11_copy_59 : zD cX11_copy 59 61 (.aload 7) 2 := by decide +kernel
theorem kX11_copy_61 : zD cX11_copy 61 64 (.invokevirtual 308) 3 := by decide +kernel
theorem kX11_copy_64 : zB cX11_copy 64 67 80 (.ifCond .eq 16) 16 := by decide +kernel
theorem kX11_copy_67 : zD cX11_copy 67 69 (.aload 6) 2 := by decide +kernel
theorem kX11_copy_69 : zD cX11_copy 69 72 (.getfield 75) 3 := by decide +kernel
theorem kX11_copy_72 : zD cX11_copy 72 74 (.aload 7) 2 := by decide +kernel
theorem kX11_copy_74 : zD cX11_copy 74 77 (.getfield 75) 3 := by decide +kernel
theorem kX11_copy_77 : zB cX11_copy 77 80 83 (.if_icmp .eq 6) 6 := by decide +kernel
theorem kX11_copy_80 : zD cX11_copy 80 82 (.bipush (-12)) 2 := by decide +kernel
theorem kX11_copy_82 : zD cX11_copy 82 83 (.ireturn) 1 := by decide +kernel
theorem kX11_copy_83 : zD cX11_copy 83 85 (.aload 6) 2 := by decide +kernel
theorem kX11_copy_85 : zD cX11_copy 85 86 (.iload_n 2) 1 := by decide +kernel
theorem kX11_copy_86 : zD cX11_copy 86 88 (.iload 5) 2 := by decide +kernel
theorem kX11_copy_88 : zD cX11_copy 88 91 (.invokevirtual 322) 3 := by decide +kernel
theorem kX11_copy_91 : zB cX11_copy 91 94 106 (.ifCond .eq 15) 15 := by decide +kernel
theorem kX11_copy_94 : zD cX11_copy 94 96 (.aload 7) 2 := by decide +kernel
theorem kX11_copy_96 : zD cX11_copy 96 98 (.iload 4) 2 := by decide +kernel
theorem kX11_copy_98 : zD cX11_copy 98 100 (.iload 5) 2 := by decide +kernel
theorem kX11_copy_100 : zD cX11_copy 100 103 (.invokevirtual 322) 3 := by decide +kernel
theorem kX11_copy_103 : zB cX11_copy 103 106 109 (.ifCond .ne 6) 6 := by decide +kernel
theorem kX11_copy_106 : zD cX11_copy 106 108 (.bipush (-13)) 2 := by decide +kernel
theorem kX11_copy_108 : zD cX11_copy 108 109 (.ireturn) 1 := by decide +kernel
theorem kX11_copy_109 : zD cX11_copy 109 111 (.aload 6) 2 := by decide +kernel
theorem kX11_copy_111 : zD cX11_copy 111 114 (.getfield 326) 3 := by decide +kernel
theorem kX11_copy_114 : zD cX11_copy 114 115 (.iload_n 2) 1 := by decide +kernel
theorem kX11_copy_115 : zD cX11_copy 115 117 (.aload 7) 2 := by decide +kernel
theorem kX11_copy_117 : zD cX11_copy 117 120 (.getfield 326) 3 := by decide +kernel
theorem kX11_copy_120 : zD cX11_copy 120 122 (.iload 4) 2 := by decide +kernel
theorem kX11_copy_122 : zD cX11_copy 122 124 (.iload 5) 2 := by decide +kernel
theorem kX11_copy_124 : zD cX11_copy 124 127 (.invokestatic 329) 3 := by decide +kernel
theorem kX11_copy_127 : zD cX11_copy 127 129 (.iload 5) 2 := by decide +kernel
theorem kX11_copy_129 : zD cX11_copy 129 130 (.ireturn) 1 := by decide +kernel
set_option maxRecDepth 10000 in
theorem wX11_copy_0 {G : ZG} {d : Nat} {h : ZH} {Q : Option ZV → ZH → Prop} {x1 : Int32} {x2 : Int32} {x3 : Int32} {x4 : Int32} {x5 : Int32} 
  (H : (¬ (0 ≤ x1 ∧ x1 ≤ 7) → Q (some (zi (-1))) h) ∧ ((0 ≤ x1 ∧ x1 ≤ 7) → ((0 ≤ x3 ∧ x3 ≤ 7) → vp_in x1 8 ∧ vp_in x3 8 ∧ ((h.1 3 (x1.toNatClampNeg) 0 = 0) → Q (some (zi (-11))) h) ∧ (¬ (h.1 3 (x1.toNatClampNeg) 0 = 0) → (¬ (h.1 3 (x3.toNatClampNeg) 0 = 0) → (¬ (h.1 3 (x1.toNatClampNeg) 0 = 2) → Q (some (zi (-12))) h) ∧ ((h.1 3 (x1.toNatClampNeg) 0 = 2) → (¬ (h.1 3 (x3.toNatClampNeg) 0 = 2) → Q (some (zi (-12))) h) ∧ ((h.1 3 (x3.toNatClampNeg) 0 = 2) → ((h.1 3 (x1.toNatClampNeg) 3) = (h.1 3 (x3.toNatClampNeg) 3) → (¬ ((0 ≤ x2 ∧ 0 ≤ x5) ∧ (x2 ≤ h.1 3 (x1.toNatClampNeg) 4 ∧ x5 ≤ h.1 3 (x1.toNatClampNeg) 4 - x2)) → Q (some (zi (-13))) h) ∧ (((0 ≤ x2 ∧ 0 ≤ x5) ∧ (x2 ≤ h.1 3 (x1.toNatClampNeg) 4 ∧ x5 ≤ h.1 3 (x1.toNatClampNeg) 4 - x2)) → (((0 ≤ x4 ∧ 0 ≤ x5) ∧ (x4 ≤ h.1 3 (x3.toNatClampNeg) 4 ∧ x5 ≤ h.1 3 (x3.toNatClampNeg) 4 - x4)) → ¬ x2 < 0 ∧ ¬ x4 < 0 ∧ ¬ x5 < 0 ∧ x2.toNatClampNeg + x5.toNatClampNeg ≤ 100 ∧ x4.toNatClampNeg + x5.toNatClampNeg ≤ 100 ∧ (∀ h3 : ZH, h3 = zsR h 16 (x3.toNatClampNeg) (va_cpy (h.1 16 (x1.toNatClampNeg)) (h.1 16 (x3.toNatClampNeg)) x2.toNatClampNeg x4.toNatClampNeg x5.toNatClampNeg) → Q (some (zi x5)) h3)) ∧ (¬ ((0 ≤ x4 ∧ 0 ≤ x5) ∧ (x4 ≤ h.1 3 (x3.toNatClampNeg) 4 ∧ x5 ≤ h.1 3 (x3.toNatClampNeg) 4 - x4)) → Q (some (zi (-13))) h))) ∧ (¬ (h.1 3 (x1.toNatClampNeg) 3) = (h.1 3 (x3.toNatClampNeg) 3) → Q (some (zi (-12))) h)))) ∧ ((h.1 3 (x3.toNatClampNeg) 0 = 0) → Q (some (zi (-11))) h))) ∧ (¬ (0 ≤ x3 ∧ x3 ≤ 7) → Q (some (zi (-1))) h))) :
  zT G (d + 2) mX11_copy 0 [zr 0 0, zi x1, zi x2, zi x3, zi x4, zi x5, zu, zu] [] h Q := by
  refine zt_iload_n kX11_copy_0 rfl ?_
  refine zt_cS (as := [zi x1]) kX11_copy_1 sRX11_282 rfl (by simp) rfl (sX11_isShelf _  ) (fun r h0 hq => ?_)
  obtain ⟨rfl, hh⟩ := hq
  replace hh := hh.symm
  subst hh
  refine zt_ifb_eq kX11_copy_4 (fun c => ?_) (fun c => ?_)
  · replace H := H.1 c
    refine zt_iconst (v := (-1)) kX11_copy_14 rfl ?_
    exact zt_iret kX11_copy_15 rfl H
  · replace H := H.2 c
    refine zt_iload_n kX11_copy_7 rfl ?_
    refine zt_cS (as := [zi x3]) kX11_copy_8 sRX11_282 rfl (by simp) rfl (sX11_isShelf _  ) (fun r h0 hq => ?_)
    obtain ⟨rfl, hh⟩ := hq
    replace hh := hh.symm
    subst hh
    refine zt_ifb_ne kX11_copy_11 (fun c => ?_) (fun c => ?_)
    · replace H := H.1 c
      refine zt_aload_n kX11_copy_16 rfl ?_
      refine zt_get (v := zr 22 0) kX11_copy_17 fRX11_62 rfl (by decide) rfl ?_
      refine zt_iload_n kX11_copy_20 rfl ?_
      obtain ⟨hv1, H⟩ := H
      refine zt_aaldH kX11_copy_21 hv1 ?_
      refine zt_astore (L' := [zr 0 0, zi x1, zi x2, zi x3, zi x4, zi x5, zr 3 (x1.toNatClampNeg), zu]) kX11_copy_22 (by decide) rfl ?_
      refine zt_aload_n kX11_copy_24 rfl ?_
      refine zt_get (v := zr 22 0) kX11_copy_25 fRX11_62 rfl (by decide) rfl ?_
      refine zt_iload_n kX11_copy_28 rfl ?_
      obtain ⟨hv2, H⟩ := H
      refine zt_aaldH kX11_copy_29 hv2 ?_
      refine zt_astore (L' := [zr 0 0, zi x1, zi x2, zi x3, zi x4, zi x5, zr 3 (x1.toNatClampNeg), zr 3 (x3.toNatClampNeg)]) kX11_copy_30 (by decide) rfl ?_
      refine zt_aload kX11_copy_32 rfl ?_
      refine zt_cV (as := []) kX11_copy_34 sRX11_319 rfl (zok3 hv1) rfl (by simp) rfl (sX8_isEmpty _ (zok3 hv1) ) (fun r h0 hq => ?_)
      obtain ⟨rfl, hh⟩ := hq
      replace hh := hh.symm
      subst hh
      refine zt_ifb_ne kX11_copy_37 (fun c => ?_) (fun c => ?_)
      · replace H := H.1 c
        refine zt_bipush (v := (-11)) kX11_copy_48 rfl ?_
        exact zt_iret kX11_copy_50 rfl H
      · replace H := H.2 c
        refine zt_aload kX11_copy_40 rfl ?_
        refine zt_cV (as := []) kX11_copy_42 sRX11_319 rfl (zok3 hv2) rfl (by simp) rfl (sX8_isEmpty _ (zok3 hv2) ) (fun r h0 hq => ?_)
        obtain ⟨rfl, hh⟩ := hq
        replace hh := hh.symm
        subst hh
        refine zt_ifb_eq kX11_copy_45 (fun c => ?_) (fun c => ?_)
        · replace H := H.1 c
          refine zt_aload kX11_copy_51 rfl ?_
          refine zt_cV (as := []) kX11_copy_53 sRX11_308 rfl (zok3 hv1) rfl (by simp) rfl (sX8_isRow _ (zok3 hv1) ) (fun r h0 hq => ?_)
          obtain ⟨rfl, hh⟩ := hq
          replace hh := hh.symm
          subst hh
          refine zt_ifb_eq kX11_copy_56 (fun c => ?_) (fun c => ?_)
          · replace H := H.1 c
            refine zt_bipush (v := (-12)) kX11_copy_80 rfl ?_
            exact zt_iret kX11_copy_82 rfl H
          · replace H := H.2 c
            refine zt_aload kX11_copy_59 rfl ?_
            refine zt_cV (as := []) kX11_copy_61 sRX11_308 rfl (zok3 hv2) rfl (by simp) rfl (sX8_isRow _ (zok3 hv2) ) (fun r h0 hq => ?_)
            obtain ⟨rfl, hh⟩ := hq
            replace hh := hh.symm
            subst hh
            refine zt_ifb_eq kX11_copy_64 (fun c => ?_) (fun c => ?_)
            · replace H := H.1 c
              refine zt_bipush (v := (-12)) kX11_copy_80 rfl ?_
              exact zt_iret kX11_copy_82 rfl H
            · replace H := H.2 c
              refine zt_aload kX11_copy_67 rfl ?_
              refine zt_get (v := zi (h.1 3 (x1.toNatClampNeg) 3)) kX11_copy_69 fRX11_75 rfl (zok3 hv1) rfl ?_
              refine zt_aload kX11_copy_72 rfl ?_
              refine zt_get (v := zi (h.1 3 (x3.toNatClampNeg) 3)) kX11_copy_74 fRX11_75 rfl (zok3 hv2) rfl ?_
              refine zt_icmp_eq kX11_copy_77 (fun c => ?_) (fun c => ?_)
              · replace H := H.1 c
                refine zt_aload kX11_copy_83 rfl ?_
                refine zt_iload_n kX11_copy_85 rfl ?_
                refine zt_iload kX11_copy_86 rfl ?_
                refine zt_cV (as := [zi x2, zi x5]) kX11_copy_88 sRX11_322 rfl (zok3 hv1) rfl (by simp) rfl (sX8_hasSpan _ (zok3 hv1) ) (fun r h0 hq => ?_)
                obtain ⟨rfl, hh⟩ := hq
                replace hh := hh.symm
                subst hh
                refine zt_ifb_eq kX11_copy_91 (fun c => ?_) (fun c => ?_)
                · replace H := H.1 c
                  refine zt_bipush (v := (-13)) kX11_copy_106 rfl ?_
                  exact zt_iret kX11_copy_108 rfl H
                · replace H := H.2 c
                  refine zt_aload kX11_copy_94 rfl ?_
                  refine zt_iload kX11_copy_96 rfl ?_
                  refine zt_iload kX11_copy_98 rfl ?_
                  refine zt_cV (as := [zi x4, zi x5]) kX11_copy_100 sRX11_322 rfl (zok3 hv2) rfl (by simp) rfl (sX8_hasSpan _ (zok3 hv2) ) (fun r h0 hq => ?_)
                  obtain ⟨rfl, hh⟩ := hq
                  replace hh := hh.symm
                  subst hh
                  refine zt_ifb_ne kX11_copy_103 (fun c => ?_) (fun c => ?_)
                  · replace H := H.1 c
                    refine zt_aload kX11_copy_109 rfl ?_
                    refine zt_get (v := zr 16 (x1.toNatClampNeg)) kX11_copy_111 fRX11_326 rfl (zok3 hv1) rfl ?_
                    refine zt_iload_n kX11_copy_114 rfl ?_
                    refine zt_aload kX11_copy_115 rfl ?_
                    refine zt_get (v := zr 16 (x3.toNatClampNeg)) kX11_copy_117 fRX11_326 rfl (zok3 hv2) rfl ?_
                    refine zt_iload kX11_copy_120 rfl ?_
                    refine zt_iload kX11_copy_122 rfl ?_
                    obtain ⟨q1, q2, q3, q4, q5, H⟩ := H
                    refine zt_copy kX11_copy_124 aRX11_329 rfl rfl (zok3 hv1) (zok3 hv2) (by decide) q1 q2 q3 q4 q5 ?_
                    refine zt_heap (fun h3 eh3 => ?_)
                    replace H := H h3 eh3
                    refine zt_iload kX11_copy_127 rfl ?_
                    exact zt_iret kX11_copy_129 rfl H
                  · replace H := H.2 c
                    refine zt_bipush (v := (-13)) kX11_copy_106 rfl ?_
                    exact zt_iret kX11_copy_108 rfl H
              · replace H := H.2 c
                refine zt_bipush (v := (-12)) kX11_copy_80 rfl ?_
                exact zt_iret kX11_copy_82 rfl H
        · replace H := H.2 c
          refine zt_bipush (v := (-11)) kX11_copy_48 rfl ?_
          exact zt_iret kX11_copy_50 rfl H
    · replace H := H.2 c
      refine zt_iconst (v := (-1)) kX11_copy_14 rfl ?_
      exact zt_iret kX11_copy_15 rfl H

theorem kX12_lays_0 : zD cX12_lays 0 1 (.iload_n 2) 1 := by decide +kernel
theorem kX12_lays_1 : zD cX12_lays 1 4 (.invokestatic 130) 3 := by decide +kernel
theorem kX12_lays_4 : zB cX12_lays 4 7 9 (.ifCond .ne 5) 5 := by decide +kernel
theorem kX12_lays_7 : zD cX12_lays 7 8 (.iconst (-1)) 1 := by decide +kernel
theorem kX12_lays_8 : zD cX12_lays 8 9 (.ireturn) 1 := by decide +kernel
theorem kX12_lays_9 : zD cX12_lays 9 10 (.aload_n 0) 1 := by decide +kernel
theorem kX12_lays_10 : zD cX12_lays 10 11 (.iload_n 1) 1 := by decide +kernel
theorem kX12_lays_11 : zD cX12_lays 11 14 (.invokevirtual 160) 3 := by decide +kernel
theorem kX12_lays_14 : zD cX12_lays 14 15 (.istore_n 3) 1 := by decide +kernel
theorem kX12_lays_15 : zD cX12_lays 15 16 (.iload_n 3) 1 := by decide +kernel
theorem kX12_lays_16 : zB cX12_lays 16 19 21 (.ifCond .eq 5) 5 := by decide +kernel
theorem kX12_lays_19 : zD cX12_lays 19 20 (.iload_n 3) 1 := by decide +kernel
theorem kX12_lays_20 : zD cX12_lays 20 21 (.ireturn) 1 := by decide +kernel
theorem kX12_lays_21 : zD cX12_lays 21 22 (.aload_n 0) 1 := by decide +kernel
theorem kX12_lays_22 : zD cX12_lays 22 23 (.iload_n 2) 1 := by decide +kernel
theorem kX12_lays_23 : zD cX12_lays 23 26 (.invokevirtual 133) 3 := by decide +kernel
theorem kX12_lays_26 : zB cX12_lays 26 29 32 (.ifCond .eq 6) 6 := by decide +kernel
theorem kX12_lays_29 : zD cX12_lays 29 31 (.bipush (-2)) 2 := by decide +kernel
theorem kX12_lays_31 : zD cX12_lays 31 32 (.ireturn) 1 := by decide +kernel
theorem kX12_lays_32 : zD cX12_lays 32 33 (.aload_n 0) 1 := by decide +kernel
theorem kX12_lays_33 : zD cX12_lays 33 36 (.getfield 9) 3 := by decide +kernel
theorem kX12_lays_36 : zD cX12_lays 36 37 (.iconst 0) 1 := by decide +kernel
theorem kX12_lays_37 : zD cX12_lays 37 38 (.iaload) 1 := by decide +kernel
theorem kX12_lays_38 : zD cX12_lays 38 41 (.invokestatic 107) 3 := by decide +kernel
theorem kX12_lays_41 : zD cX12_lays 41 42 (.iconst 1) 1 := by decide +kernel
theorem kX12_lays_42 : zD cX12_lays 42 43 (.iadd) 1 := by decide +kernel
theorem kX12_lays_43 : zD cX12_lays 43 45 (.istore 4) 2 := by decide +kernel
theorem kX12_lays_45 : zD cX12_lays 45 46 (.aload_n 0) 1 := by decide +kernel
theorem kX12_lays_46 : zD cX12_lays 46 47 (.iload_n 2) 1 := by decide +kernel
theorem kX12_lays_47 : zD cX12_lays 47 48 (.aload_n 0) 1 := by decide +kernel
theorem kX12_lays_48 : zD cX12_lays 48 51 (.getfield 38) 3 := by decide +kernel
theorem kX12_lays_51 : zD cX12_lays 51 52 (.iload_n 1) 1 := by decide +kernel
theorem kX12_lays_52 : zD cX12_lays 52 53 (.iaload) 1 := by decide +kernel
theorem kX12_lays_53 : zD cX12_lays 53 54 (.aload_n 0) 1 := by decide +kernel
theorem kX12_lays_54 : zD cX12_lays 54 57 (.getfield 41) 3 := by decide +kernel
theorem kX12_lays_57 : zD cX12_lays 57 58 (.iload_n 1) 1 := by decide +kernel
theorem kX12_lays_58 : zD cX12_lays 58 59 (.iaload) 1 := by decide +kernel
theorem kX12_lays_59 : zD cX12_lays 59 62 (.invokevirtual 136) 3 := by decide +kernel
theorem kX12_lays_62 : zD cX12_lays 62 64 (.iload 4) 2 := by decide +kernel
theorem kX12_lays_64 : zD cX12_lays 64 65 (.aload_n 0) 1 := by decide +kernel
theorem kX12_lays_65 : zD cX12_lays 65 68 (.getfield 9) 3 := by decide +kernel
theorem kX12_lays_68 : zD cX12_lays 68 69 (.iconst 0) 1 := by decide +kernel
theorem kX12_lays_69 : zD cX12_lays 69 70 (.iaload) 1 := by decide +kernel
theorem kX12_lays_70 : zD cX12_lays 70 73 (.invokestatic 107) 3 := by decide +kernel
theorem kX12_lays_73 : zD cX12_lays 73 74 (.isub) 1 := by decide +kernel
theorem kX12_lays_74 : zD cX12_lays 74 75 (.ireturn) 1 := by decide +kernel
set_option maxRecDepth 10000 in
theorem wX12_lays_0 {G : ZG} {d : Nat} {h : ZH} {Q : Option ZV → ZH → Prop} {x1 : Int32} {x2 : Int32} 
  (H : ((0 ≤ x2 ∧ x2 ≤ 11) → ((wKeptI h x1) = 0 → (¬ (hasI (h.1 30 0 0) x2) → vp_in x1 8 ∧ vp_in x1 8 ∧ zC G (d + 6) mX12_laysAt [zr 5 0, zi x2, zi (h.1 39 0 x1.toNatClampNeg), zi (h.1 40 0 x1.toNatClampNeg)] h (fun r2 h1 => r2 = none ∧ Q (some (zi (((bitsI (h.1 30 0 0)) + 1) - (bitsI (h1.1 30 0 0))))) h1)) ∧ ((hasI (h.1 30 0 0) x2) → Q (some (zi (-2))) h)) ∧ (¬ (wKeptI h x1) = 0 → Q (some (zi (wKeptI h x1))) h)) ∧ (¬ (0 ≤ x2 ∧ x2 ≤ 11) → Q (some (zi (-1))) h)) :
  zT G (d + 7) mX12_lays 0 [zr 5 0, zi x1, zi x2, zu, zu] [] h Q := by
  refine zt_iload_n kX12_lays_0 rfl ?_
  refine zt_cS (as := [zi x2]) kX12_lays_1 sRX12_130 rfl (by simp) rfl (sX12_isPlace _  ) (fun r h0 hq => ?_)
  obtain ⟨rfl, hh⟩ := hq
  replace hh := hh.symm
  subst hh
  refine zt_ifb_ne kX12_lays_4 (fun c => ?_) (fun c => ?_)
  · replace H := H.1 c
    refine zt_aload_n kX12_lays_9 rfl ?_
    refine zt_iload_n kX12_lays_10 rfl ?_
    refine zt_cV (as := [zi x1]) kX12_lays_11 sRX12_160 rfl (by decide) rfl (by simp) rfl (sX12_wrongKept _  ) (fun r h0 hq => ?_)
    obtain ⟨rfl, hh⟩ := hq
    replace hh := hh.symm
    subst hh
    refine zt_istore_n (L' := [zr 5 0, zi x1, zi x2, zi (wKeptI h x1), zu]) kX12_lays_14 (by decide) rfl ?_
    refine zt_iload_n kX12_lays_15 rfl ?_
    refine zt_if_eq kX12_lays_16 (fun c => ?_) (fun c => ?_)
    · replace H := H.1 c
      refine zt_aload_n kX12_lays_21 rfl ?_
      refine zt_iload_n kX12_lays_22 rfl ?_
      refine zt_cV (as := [zi x2]) kX12_lays_23 sRX12_133 rfl (by decide) rfl (by simp) rfl (sX12_isThere _  ) (fun r h0 hq => ?_)
      obtain ⟨rfl, hh⟩ := hq
      replace hh := hh.symm
      subst hh
      refine zt_ifb_eq kX12_lays_26 (fun c => ?_) (fun c => ?_)
      · replace H := H.1 c
        refine zt_aload_n kX12_lays_32 rfl ?_
        refine zt_get (v := zr 30 0) kX12_lays_33 fRX12_9 rfl (by decide) rfl ?_
        refine zt_iconst (v := 0) kX12_lays_36 rfl ?_
        refine zt_ialdc 0 rfl kX12_lays_37 rfl (by decide) (zvp_dec (by decide)) ?_
        refine zt_cS (as := [zi (h.1 30 0 0)]) kX12_lays_38 sRX12_107 rfl (by simp) rfl (sX12_bits _  ) (fun r h0 hq => ?_)
        obtain ⟨rfl, hh⟩ := hq
        replace hh := hh.symm
        subst hh
        refine zt_iconst (v := 1) kX12_lays_41 rfl ?_
        refine zt_iadd kX12_lays_42 ?_
        refine zt_istore (L' := [zr 5 0, zi x1, zi x2, zi (wKeptI h x1), zi ((bitsI (h.1 30 0 0)) + 1)]) kX12_lays_43 (by decide) rfl ?_
        refine zt_aload_n kX12_lays_45 rfl ?_
        refine zt_iload_n kX12_lays_46 rfl ?_
        refine zt_aload_n kX12_lays_47 rfl ?_
        refine zt_get (v := zr 39 0) kX12_lays_48 fRX12_38 rfl (by decide) rfl ?_
        refine zt_iload_n kX12_lays_51 rfl ?_
        obtain ⟨hv, H⟩ := H
        refine zt_iald kX12_lays_52 rfl (by decide) hv ?_
        refine zt_aload_n kX12_lays_53 rfl ?_
        refine zt_get (v := zr 40 0) kX12_lays_54 fRX12_41 rfl (by decide) rfl ?_
        refine zt_iload_n kX12_lays_57 rfl ?_
        obtain ⟨hv, H⟩ := H
        refine zt_iald kX12_lays_58 rfl (by decide) hv ?_
        refine zt_cV (as := [zi x2, zi (h.1 39 0 x1.toNatClampNeg), zi (h.1 40 0 x1.toNatClampNeg)]) kX12_lays_59 sRX12_136 rfl (by decide) rfl (by simp) rfl H (fun r2 h1 H => ?_)
        obtain ⟨rfl, H⟩ := H
        refine zt_iload kX12_lays_62 rfl ?_
        refine zt_aload_n kX12_lays_64 rfl ?_
        refine zt_get (v := zr 30 0) kX12_lays_65 fRX12_9 rfl (by decide) rfl ?_
        refine zt_iconst (v := 0) kX12_lays_68 rfl ?_
        refine zt_ialdc 0 rfl kX12_lays_69 rfl (by decide) (zvp_dec (by decide)) ?_
        refine zt_cS (as := [zi (h1.1 30 0 0)]) kX12_lays_70 sRX12_107 rfl (by simp) rfl (sX12_bits _  ) (fun r h0 hq => ?_)
        obtain ⟨rfl, hh⟩ := hq
        replace hh := hh.symm
        subst hh
        refine zt_isub kX12_lays_73 ?_
        exact zt_iret kX12_lays_74 rfl H
      · replace H := H.2 c
        refine zt_bipush (v := (-2)) kX12_lays_29 rfl ?_
        exact zt_iret kX12_lays_31 rfl H
    · replace H := H.2 c
      refine zt_iload_n kX12_lays_19 rfl ?_
      exact zt_iret kX12_lays_20 rfl H
  · replace H := H.2 c
    refine zt_iconst (v := (-1)) kX12_lays_7 rfl ?_
    exact zt_iret kX12_lays_8 rfl H

theorem kX12_takes_0 : zD cX12_takes 0 1 (.aload_n 0) 1 := by decide +kernel
theorem kX12_takes_1 : zD cX12_takes 1 2 (.iload_n 1) 1 := by decide +kernel
theorem kX12_takes_2 : zD cX12_takes 2 5 (.invokevirtual 154) 3 := by decide +kernel
theorem kX12_takes_5 : zD cX12_takes 5 6 (.istore_n 2) 1 := by decide +kernel
theorem kX12_takes_6 : zD cX12_takes 6 7 (.iload_n 2) 1 := by decide +kernel
theorem kX12_takes_7 : zB cX12_takes 7 10 12 (.ifCond .eq 5) 5 := by decide +kernel
theorem kX12_takes_10 : zD cX12_takes 10 11 (.iload_n 2) 1 := by decide +kernel
theorem kX12_takes_11 : zD cX12_takes 11 12 (.ireturn) 1 := by decide +kernel
theorem kX12_takes_12 : zD cX12_takes 12 13 (.aload_n 0) 1 := by decide +kernel
theorem kX12_takes_13 : zD cX12_takes 13 16 (.getfield 9) 3 := by decide +kernel
theorem kX12_takes_16 : zD cX12_takes 16 17 (.iconst 0) 1 := by decide +kernel
theorem kX12_takes_17 : zD cX12_takes 17 18 (.iaload) 1 := by decide +kernel
theorem kX12_takes_18 : zD cX12_takes 18 21 (.invokestatic 107) 3 := by decide +kernel
theorem kX12_takes_21 : zD cX12_takes 21 22 (.iconst 1) 1 := by decide +kernel
theorem kX12_takes_22 : zD cX12_takes 22 23 (.isub) 1 := by decide +kernel
theorem kX12_takes_23 : zD cX12_takes 23 24 (.istore_n 3) 1 := by decide +kernel
theorem kX12_takes_24 : zD cX12_takes 24 25 (.aload_n 0) 1 := by decide +kernel
theorem kX12_takes_25 : zD cX12_takes 25 28 (.getfield 9) 3 := by decide +kernel
theorem kX12_takes_28 : zD cX12_takes 28 29 (.iconst 0) 1 := by decide +kernel
theorem kX12_takes_29 : zD cX12_takes 29 30 (.aload_n 0) 1 := by decide +kernel
theorem kX12_takes_30 : zD cX12_takes 30 31 (.aload_n 0) 1 := by decide +kernel
theorem kX12_takes_31 : zD cX12_takes 31 34 (.getfield 9) 3 := by decide +kernel
theorem kX12_takes_34 : zD cX12_takes 34 35 (.iconst 0) 1 := by decide +kernel
theorem kX12_takes_35 : zD cX12_takes 35 36 (.iaload) 1 := by decide +kernel
theorem kX12_takes_36 : zD cX12_takes 36 37 (.iconst 1) 1 := by decide +kernel
theorem kX12_takes_37 : zD cX12_takes 37 38 (.iload_n 1) 1 := by decide +kernel
theorem kX12_takes_38 : zD cX12_takes 38 39 (.ishl) 1 := by decide +kernel
theorem kX12_takes_39 : zD cX12_takes 39 42 (.invokevirtual 110) 3 := by decide +kernel
theorem kX12_takes_42 : zD cX12_takes 42 43 (.iastore) 1 := by decide +kernel
theorem kX12_takes_43 : zD cX12_takes 43 44 (.iload_n 3) 1 := by decide +kernel
theorem kX12_takes_44 : zD cX12_takes 44 45 (.aload_n 0) 1 := by decide +kernel
theorem kX12_takes_45 : zD cX12_takes 45 48 (.getfield 9) 3 := by decide +kernel
theorem kX12_takes_48 : zD cX12_takes 48 49 (.iconst 0) 1 := by decide +kernel
theorem kX12_takes_49 : zD cX12_takes 49 50 (.iaload) 1 := by decide +kernel
theorem kX12_takes_50 : zD cX12_takes 50 53 (.invokestatic 107) 3 := by decide +kernel
theorem kX12_takes_53 : zD cX12_takes 53 54 (.isub) 1 := by decide +kernel
theorem kX12_takes_54 : zD cX12_takes 54 55 (.ireturn) 1 := by decide +kernel
set_option maxRecDepth 10000 in
theorem wX12_takes_0 {G : ZG} {d : Nat} {h : ZH} {Q : Option ZV → ZH → Prop} {x1 : Int32} 
  (H : ((wStoneI h x1) = 0 → zC G (d + 6) mX12_leftWithout [zr 5 0, zi (h.1 30 0 0), zi ((1 : Int32) <<< (x1 &&& 31))] h (fun r2 h1 => ∃ y3 : Int32, r2 = some (zi y3) ∧ ∀ h4 : ZH, h4 = zs1 h1 30 0 0 y3 → Q (some (zi (((bitsI (h.1 30 0 0)) - 1) - (bitsI (h4.1 30 0 0))))) h4)) ∧ (¬ (wStoneI h x1) = 0 → Q (some (zi (wStoneI h x1))) h)) :
  zT G (d + 7) mX12_takes 0 [zr 5 0, zi x1, zu, zu] [] h Q := by
  refine zt_aload_n kX12_takes_0 rfl ?_
  refine zt_iload_n kX12_takes_1 rfl ?_
  refine zt_cV (as := [zi x1]) kX12_takes_2 sRX12_154 rfl (by decide) rfl (by simp) rfl (sX12_wrongStone _  ) (fun r h0 hq => ?_)
  obtain ⟨rfl, hh⟩ := hq
  replace hh := hh.symm
  subst hh
  refine zt_istore_n (L' := [zr 5 0, zi x1, zi (wStoneI h x1), zu]) kX12_takes_5 (by decide) rfl ?_
  refine zt_iload_n kX12_takes_6 rfl ?_
  refine zt_if_eq kX12_takes_7 (fun c => ?_) (fun c => ?_)
  · replace H := H.1 c
    refine zt_aload_n kX12_takes_12 rfl ?_
    refine zt_get (v := zr 30 0) kX12_takes_13 fRX12_9 rfl (by decide) rfl ?_
    refine zt_iconst (v := 0) kX12_takes_16 rfl ?_
    refine zt_ialdc 0 rfl kX12_takes_17 rfl (by decide) (zvp_dec (by decide)) ?_
    refine zt_cS (as := [zi (h.1 30 0 0)]) kX12_takes_18 sRX12_107 rfl (by simp) rfl (sX12_bits _  ) (fun r h0 hq => ?_)
    obtain ⟨rfl, hh⟩ := hq
    replace hh := hh.symm
    subst hh
    refine zt_iconst (v := 1) kX12_takes_21 rfl ?_
    refine zt_isub kX12_takes_22 ?_
    refine zt_istore_n (L' := [zr 5 0, zi x1, zi (wStoneI h x1), zi ((bitsI (h.1 30 0 0)) - 1)]) kX12_takes_23 (by decide) rfl ?_
    refine zt_aload_n kX12_takes_24 rfl ?_
    refine zt_get (v := zr 30 0) kX12_takes_25 fRX12_9 rfl (by decide) rfl ?_
    refine zt_iconst (v := 0) kX12_takes_28 rfl ?_
    refine zt_aload_n kX12_takes_29 rfl ?_
    refine zt_aload_n kX12_takes_30 rfl ?_
    refine zt_get (v := zr 30 0) kX12_takes_31 fRX12_9 rfl (by decide) rfl ?_
    refine zt_iconst (v := 0) kX12_takes_34 rfl ?_
    refine zt_ialdc 0 rfl kX12_takes_35 rfl (by decide) (zvp_dec (by decide)) ?_
    refine zt_iconst (v := 1) kX12_takes_36 rfl ?_
    refine zt_iload_n kX12_takes_37 rfl ?_
    refine zt_ishl kX12_takes_38 ?_
    refine zt_cV (as := [zi (h.1 30 0 0), zi ((1 : Int32) <<< (x1 &&& 31))]) kX12_takes_39 sRX12_110 rfl (by decide) rfl (by simp) rfl H (fun r2 h1 H => ?_)
    obtain ⟨y3, rfl, H⟩ := H
    refine zt_iastc 0 rfl kX12_takes_42 rfl (by decide) (zvp_dec (by decide)) ?_
    refine zt_heap (fun h4 eh4 => ?_)
    replace H := H h4 eh4
    refine zt_iload_n kX12_takes_43 rfl ?_
    refine zt_aload_n kX12_takes_44 rfl ?_
    refine zt_get (v := zr 30 0) kX12_takes_45 fRX12_9 rfl (by decide) rfl ?_
    refine zt_iconst (v := 0) kX12_takes_48 rfl ?_
    refine zt_ialdc 0 rfl kX12_takes_49 rfl (by decide) (zvp_dec (by decide)) ?_
    refine zt_cS (as := [zi (h4.1 30 0 0)]) kX12_takes_50 sRX12_107 rfl (by simp) rfl (sX12_bits _  ) (fun r h0 hq => ?_)
    obtain ⟨rfl, hh⟩ := hq
    replace hh := hh.symm
    subst hh
    refine zt_isub kX12_takes_53 ?_
    exact zt_iret kX12_takes_54 rfl H
  · replace H := H.2 c
    refine zt_iload_n kX12_takes_10 rfl ?_
    exact zt_iret kX12_takes_11 rfl H

theorem kX12_props_0 : zD cX12_props 0 1 (.iload_n 1) 1 := by decide +kernel
theorem kX12_props_1 : zD cX12_props 1 4 (.invokestatic 130) 3 := by decide +kernel
theorem kX12_props_4 : zB cX12_props 4 7 9 (.ifCond .ne 5) 5 := by decide +kernel
theorem kX12_props_7 : zD cX12_props 7 8 (.iconst (-1)) 1 := by decide +kernel
theorem kX12_props_8 : zD cX12_props 8 9 (.ireturn) 1 := by decide +kernel
theorem kX12_props_9 : zD cX12_props 9 10 (.aload_n 0) 1 := by decide +kernel
theorem kX12_props_10 : zD cX12_props 10 13 (.getfield 9) 3 := by decide +kernel
theorem kX12_props_13 : zD cX12_props 13 14 (.iconst 0) 1 := by decide +kernel
theorem kX12_props_14 : zD cX12_props 14 15 (.iaload) 1 := by decide +kernel
theorem kX12_props_15 : zD cX12_props 15 18 (.invokestatic 107) 3 := by decide +kernel
theorem kX12_props_18 : zD cX12_props 18 19 (.istore_n 2) 1 := by decide +kernel
theorem kX12_props_19 : zD cX12_props 19 20 (.aload_n 0) 1 := by decide +kernel
theorem kX12_props_20 : zD cX12_props 20 23 (.getfield 9) 3 := by decide +kernel
theorem kX12_props_23 : zD cX12_props 23 24 (.iconst 1) 1 := by decide +kernel
theorem kX12_props_24 : zD cX12_props 24 25 (.dup2) 1 := by decide +kernel
theorem kX12_props_25 : zD cX12_props 25 26 (.iaload) 1 := by decide +kernel
theorem kX12_props_26 : zD cX12_props 26 27 (.iconst 1) 1 := by decide +kernel
theorem kX12_props_27 : zD cX12_props 27 28 (.iload_n 1) 1 := by decide +kernel
theorem kX12_props_28 : zD cX12_props 28 29 (.ishl) 1 := by decide +kernel
theorem kX12_props_29 : zD cX12_props 29 30 (.ixor) 1 := by decide +kernel
theorem kX12_props_30 : zD cX12_props 30 31 (.iastore) 1 := by decide +kernel
theorem kX12_props_31 : zD cX12_props 31 32 (.aload_n 0) 1 := by decide +kernel
theorem kX12_props_32 : zD cX12_props 32 35 (.getfield 9) 3 := by decide +kernel
theorem kX12_props_35 : zD cX12_props 35 36 (.iconst 0) 1 := by decide +kernel
theorem kX12_props_36 : zD cX12_props 36 37 (.aload_n 0) 1 := by decide +kernel
theorem kX12_props_37 : zD cX12_props 37 38 (.aload_n 0) 1 := by decide +kernel
theorem kX12_props_38 : zD cX12_props 38 41 (.getfield 9) 3 := by decide +kernel
theorem kX12_props_41 : zD cX12_props 41 42 (.iconst 0) 1 := by decide +kernel
theorem kX12_props_42 : zD cX12_props 42 43 (.iaload) 1 := by decide +kernel
theorem kX12_props_43 : zD cX12_props 43 46 (.invokevirtual 104) 3 := by decide +kernel
theorem kX12_props_46 : zD cX12_props 46 47 (.iastore) 1 := by decide +kernel
theorem kX12_props_47 : zD cX12_props 47 48 (.iload_n 2) 1 := by decide +kernel
theorem kX12_props_48 : zD cX12_props 48 49 (.aload_n 0) 1 := by decide +kernel
theorem kX12_props_49 : zD cX12_props 49 52 (.getfield 9) 3 := by decide +kernel
theorem kX12_props_52 : zD cX12_props 52 53 (.iconst 0) 1 := by decide +kernel
theorem kX12_props_53 : zD cX12_props 53 54 (.iaload) 1 := by decide +kernel
theorem kX12_props_54 : zD cX12_props 54 57 (.invokestatic 107) 3 := by decide +kernel
theorem kX12_props_57 : zD cX12_props 57 58 (.isub) 1 := by decide +kernel
theorem kX12_props_58 : zD cX12_props 58 59 (.ireturn) 1 := by decide +kernel
set_option maxRecDepth 10000 in
theorem wX12_props_0 {G : ZG} {d : Nat} {h : ZH} {Q : Option ZV → ZH → Prop} {x1 : Int32} 
  (H : ((0 ≤ x1 ∧ x1 ≤ 11) → ∀ h1 : ZH, h1 = zs1 h 30 0 1 ((h.1 30 0 1) ^^^ ((1 : Int32) <<< (x1 &&& 31))) → zC G (d + 5) mX12_settled [zr 5 0, zi (h1.1 30 0 0)] h1 (fun r3 h2 => ∃ y4 : Int32, r3 = some (zi y4) ∧ ∀ h5 : ZH, h5 = zs1 h2 30 0 0 y4 → Q (some (zi ((bitsI (h.1 30 0 0)) - (bitsI (h5.1 30 0 0))))) h5)) ∧ (¬ (0 ≤ x1 ∧ x1 ≤ 11) → Q (some (zi (-1))) h)) :
  zT G (d + 6) mX12_props 0 [zr 5 0, zi x1, zu] [] h Q := by
  refine zt_iload_n kX12_props_0 rfl ?_
  refine zt_cS (as := [zi x1]) kX12_props_1 sRX12_130 rfl (by simp) rfl (sX12_isPlace _  ) (fun r h0 hq => ?_)
  obtain ⟨rfl, hh⟩ := hq
  replace hh := hh.symm
  subst hh
  refine zt_ifb_ne kX12_props_4 (fun c => ?_) (fun c => ?_)
  · replace H := H.1 c
    refine zt_aload_n kX12_props_9 rfl ?_
    refine zt_get (v := zr 30 0) kX12_props_10 fRX12_9 rfl (by decide) rfl ?_
    refine zt_iconst (v := 0) kX12_props_13 rfl ?_
    refine zt_ialdc 0 rfl kX12_props_14 rfl (by decide) (zvp_dec (by decide)) ?_
    refine zt_cS (as := [zi (h.1 30 0 0)]) kX12_props_15 sRX12_107 rfl (by simp) rfl (sX12_bits _  ) (fun r h0 hq => ?_)
    obtain ⟨rfl, hh⟩ := hq
    replace hh := hh.symm
    subst hh
    refine zt_istore_n (L' := [zr 5 0, zi x1, zi (bitsI (h.1 30 0 0))]) kX12_props_18 (by decide) rfl ?_
    refine zt_aload_n kX12_props_19 rfl ?_
    refine zt_get (v := zr 30 0) kX12_props_20 fRX12_9 rfl (by decide) rfl ?_
    refine zt_iconst (v := 1) kX12_props_23 rfl ?_
    refine zt_dup2 kX12_props_24 (by intro x q; cases q) (by intro x q; cases q) ?_
    refine zt_ialdc 1 rfl kX12_props_25 rfl (by decide) (zvp_dec (by decide)) ?_
    refine zt_iconst (v := 1) kX12_props_26 rfl ?_
    refine zt_iload_n kX12_props_27 rfl ?_
    refine zt_ishl kX12_props_28 ?_
    refine zt_ixor kX12_props_29 ?_
    refine zt_iastc 1 rfl kX12_props_30 rfl (by decide) (zvp_dec (by decide)) ?_
    refine zt_heap (fun h1 eh1 => ?_)
    replace H := H h1 eh1
    refine zt_aload_n kX12_props_31 rfl ?_
    refine zt_get (v := zr 30 0) kX12_props_32 fRX12_9 rfl (by decide) rfl ?_
    refine zt_iconst (v := 0) kX12_props_35 rfl ?_
    refine zt_aload_n kX12_props_36 rfl ?_
    refine zt_aload_n kX12_props_37 rfl ?_
    refine zt_get (v := zr 30 0) kX12_props_38 fRX12_9 rfl (by decide) rfl ?_
    refine zt_iconst (v := 0) kX12_props_41 rfl ?_
    refine zt_ialdc 0 rfl kX12_props_42 rfl (by decide) (zvp_dec (by decide)) ?_
    refine zt_cV (as := [zi (h1.1 30 0 0)]) kX12_props_43 sRX12_104 rfl (by decide) rfl (by simp) rfl H (fun r3 h2 H => ?_)
    obtain ⟨y4, rfl, H⟩ := H
    refine zt_iastc 0 rfl kX12_props_46 rfl (by decide) (zvp_dec (by decide)) ?_
    refine zt_heap (fun h5 eh5 => ?_)
    replace H := H h5 eh5
    refine zt_iload_n kX12_props_47 rfl ?_
    refine zt_aload_n kX12_props_48 rfl ?_
    refine zt_get (v := zr 30 0) kX12_props_49 fRX12_9 rfl (by decide) rfl ?_
    refine zt_iconst (v := 0) kX12_props_52 rfl ?_
    refine zt_ialdc 0 rfl kX12_props_53 rfl (by decide) (zvp_dec (by decide)) ?_
    refine zt_cS (as := [zi (h5.1 30 0 0)]) kX12_props_54 sRX12_107 rfl (by simp) rfl (sX12_bits _  ) (fun r h0 hq => ?_)
    obtain ⟨rfl, hh⟩ := hq
    replace hh := hh.symm
    subst hh
    refine zt_isub kX12_props_57 ?_
    exact zt_iret kX12_props_58 rfl H
  · replace H := H.2 c
    refine zt_iconst (v := (-1)) kX12_props_7 rfl ?_
    exact zt_iret kX12_props_8 rfl H

theorem kX12_image_0 : zD cX12_image 0 1 (.aload_n 0) 1 := by decide +kernel
theorem kX12_image_1 : zD cX12_image 1 4 (.getfield 9) 3 := by decide +kernel
theorem kX12_image_4 : zD cX12_image 4 5 (.aload_n 0) 1 := by decide +kernel
theorem kX12_image_5 : zD cX12_image 5 8 (.getfield 13) 3 := by decide +kernel
theorem kX12_image_8 : zD cX12_image 8 11 (.invokestatic 147) 3 := by decide +kernel
theorem kX12_image_11 : zD cX12_image 11 12 (.aload_n 0) 1 := by decide +kernel
theorem kX12_image_12 : zD cX12_image 12 13 (.iconst 1) 1 := by decide +kernel
theorem kX12_image_13 : zD cX12_image 13 16 (.putfield 234) 3 := by decide +kernel
theorem kX12_image_16 : zD cX12_image 16 17 (.aload_n 0) 1 := by decide +kernel
theorem kX12_image_17 : zD cX12_image 17 20 (.getfield 9) 3 := by decide +kernel
theorem kX12_image_20 : zD cX12_image 20 21 (.iconst 0) 1 := by decide +kernel
theorem kX12_image_21 : zD cX12_image 21 22 (.iaload) 1 := by decide +kernel
theorem kX12_image_22 : zD cX12_image 22 25 (.invokestatic 107) 3 := by decide +kernel
theorem kX12_image_25 : zD cX12_image 25 26 (.ireturn) 1 := by decide +kernel
set_option maxRecDepth 10000 in
theorem wX12_image_0 {G : ZG} {d : Nat} {h : ZH} {Q : Option ZV → ZH → Prop}  
  (H : zC G (d + 1) mX12_copies [zr 30 0, zr 31 0] h (fun r2 h1 => r2 = none ∧ ∀ h3 : ZH, h3 = zs1 h1 5 0 3 1 → Q (some (zi (bitsI (h3.1 30 0 0)))) h3)) :
  zT G (d + 2) mX12_image 0 [zr 5 0] [] h Q := by
  refine zt_aload_n kX12_image_0 rfl ?_
  refine zt_get (v := zr 30 0) kX12_image_1 fRX12_9 rfl (by decide) rfl ?_
  refine zt_aload_n kX12_image_4 rfl ?_
  refine zt_get (v := zr 31 0) kX12_image_5 fRX12_13 rfl (by decide) rfl ?_
  refine zt_cS (as := [zr 30 0, zr 31 0]) kX12_image_8 sRX12_147 rfl (by simp) rfl H (fun r2 h1 H => ?_)
  obtain ⟨rfl, H⟩ := H
  refine zt_aload_n kX12_image_11 rfl ?_
  refine zt_iconst (v := 1) kX12_image_12 rfl ?_
  refine zt_putz kX12_image_13 fRX12_234 pRX12_3 rfl (by decide) rfl (by decide) ?_
  refine zt_heap (fun h3 eh3 => ?_)
  replace H := H h3 eh3
  refine zt_aload_n kX12_image_16 rfl ?_
  refine zt_get (v := zr 30 0) kX12_image_17 fRX12_9 rfl (by decide) rfl ?_
  refine zt_iconst (v := 0) kX12_image_20 rfl ?_
  refine zt_ialdc 0 rfl kX12_image_21 rfl (by decide) (zvp_dec (by decide)) ?_
  refine zt_cS (as := [zi (h3.1 30 0 0)]) kX12_image_22 sRX12_107 rfl (by simp) rfl (sX12_bits _  ) (fun r h0 hq => ?_)
  obtain ⟨rfl, hh⟩ := hq
  replace hh := hh.symm
  subst hh
  exact zt_iret kX12_image_25 rfl H

theorem kX12_restore_0 : zD cX12_restore 0 1 (.aload_n 0) 1 := by decide +kernel
theorem kX12_restore_1 : zD cX12_restore 1 4 (.getfield 234) 3 := by decide +kernel
theorem kX12_restore_4 : zB cX12_restore 4 7 10 (.ifCond .ne 6) 6 := by decide +kernel
theorem kX12_restore_7 : zD cX12_restore 7 9 (.bipush (-3)) 2 := by decide +kernel
theorem kX12_restore_9 : zD cX12_restore 9 10 (.ireturn) 1 := by decide +kernel
theorem kX12_restore_10 : zD cX12_restore 10 11 (.aload_n 0) 1 := by decide +kernel
theorem kX12_restore_11 : zD cX12_restore 11 14 (.getfield 13) 3 := by decide +kernel
theorem kX12_restore_14 : zD cX12_restore 14 15 (.aload_n 0) 1 := by decide +kernel
theorem kX12_restore_15 : zD cX12_restore 15 18 (.getfield 9) 3 := by decide +kernel
theorem kX12_restore_18 : zD cX12_restore 18 21 (.invokestatic 147) 3 := by decide +kernel
theorem kX12_restore_21 : zD cX12_restore 21 22 (.aload_n 0) 1 := by decide +kernel
theorem kX12_restore_22 : zD cX12_restore 22 25 (.getfield 9) 3 := by decide +kernel
theorem kX12_restore_25 : zD cX12_restore 25 26 (.iconst 0) 1 := by decide +kernel
theorem kX12_restore_26 : zD cX12_restore 26 27 (.iaload) 1 := by decide +kernel
theorem kX12_restore_27 : zD cX12_restore 27 30 (.invokestatic 107) 3 := by decide +kernel
theorem kX12_restore_30 : zD cX12_restore 30 31 (.ireturn) 1 := by decide +kernel
set_option maxRecDepth 10000 in
theorem wX12_restore_0 {G : ZG} {d : Nat} {h : ZH} {Q : Option ZV → ZH → Prop}  
  (H : (¬ (h.1 5 0 3) = 0 → zC G (d + 1) mX12_copies [zr 31 0, zr 30 0] h (fun r2 h1 => r2 = none ∧ Q (some (zi (bitsI (h1.1 30 0 0)))) h1)) ∧ ((h.1 5 0 3) = 0 → Q (some (zi (-3))) h)) :
  zT G (d + 2) mX12_restore 0 [zr 5 0] [] h Q := by
  refine zt_aload_n kX12_restore_0 rfl ?_
  refine zt_get (v := zi (h.1 5 0 3)) kX12_restore_1 fRX12_234 rfl (by decide) rfl ?_
  refine zt_if_ne kX12_restore_4 (fun c => ?_) (fun c => ?_)
  · replace H := H.1 c
    refine zt_aload_n kX12_restore_10 rfl ?_
    refine zt_get (v := zr 31 0) kX12_restore_11 fRX12_13 rfl (by decide) rfl ?_
    refine zt_aload_n kX12_restore_14 rfl ?_
    refine zt_get (v := zr 30 0) kX12_restore_15 fRX12_9 rfl (by decide) rfl ?_
    refine zt_cS (as := [zr 31 0, zr 30 0]) kX12_restore_18 sRX12_147 rfl (by simp) rfl H (fun r2 h1 H => ?_)
    obtain ⟨rfl, H⟩ := H
    refine zt_aload_n kX12_restore_21 rfl ?_
    refine zt_get (v := zr 30 0) kX12_restore_22 fRX12_9 rfl (by decide) rfl ?_
    refine zt_iconst (v := 0) kX12_restore_25 rfl ?_
    refine zt_ialdc 0 rfl kX12_restore_26 rfl (by decide) (zvp_dec (by decide)) ?_
    refine zt_cS (as := [zi (h1.1 30 0 0)]) kX12_restore_27 sRX12_107 rfl (by simp) rfl (sX12_bits _  ) (fun r h0 hq => ?_)
    obtain ⟨rfl, hh⟩ := hq
    replace hh := hh.symm
    subst hh
    exact zt_iret kX12_restore_30 rfl H
  · replace H := H.2 c
    refine zt_bipush (v := (-3)) kX12_restore_7 rfl ?_
    exact zt_iret kX12_restore_9 rfl H

theorem kX12_keep_0 : zD cX12_keep 0 1 (.iload_n 1) 1 := by decide +kernel
theorem kX12_keep_1 : zD cX12_keep 1 4 (.invokestatic 241) 3 := by decide +kernel
theorem kX12_keep_4 : zB cX12_keep 4 7 42 (.ifCond .eq 38) 38 := by decide +kernel
theorem kX12_keep_7 : zD cX12_keep 7 8 (.iload_n 2) 1 := by decide +kernel
theorem kX12_keep_8 : zD cX12_keep 8 9 (.iconst 0) 1 := by decide +kernel
theorem kX12_keep_9 : zD cX12_keep 9 10 (.iconst 1) 1 := by decide +kernel
theorem kX12_keep_10 : zD cX12_keep 10 13 (.invokestatic 53) 3 := by decide +kernel
theorem kX12_keep_13 : zB cX12_keep 13 16 42 (.ifCond .eq 29) 29 := by decide +kernel
theorem kX12_keep_16 : zD cX12_keep 16 17 (.iload_n 2) 1 := by decide +kernel
theorem kX12_keep_17 : zD cX12_keep 17 18 (.iconst 1) 1 := by decide +kernel
theorem kX12_keep_18 : zB cX12_keep 18 21 44 (.if_icmp .ne 26) 26 := by decide +kernel
theorem kX12_keep_21 : zD cX12_keep 21 22 (.iload_n 3) 1 := by decide +kernel
theorem kX12_keep_22 : zD cX12_keep 22 23 (.iconst 0) 1 := by decide +kernel
theorem kX12_keep_23 : zD cX12_keep 23 25 (.bipush 7) 2 := by decide +kernel
theorem kX12_keep_25 : zD cX12_keep 25 28 (.invokestatic 53) 3 := by decide +kernel
theorem kX12_keep_28 : zB cX12_keep 28 31 42 (.ifCond .eq 14) 14 := by decide +kernel
theorem kX12_keep_31 : zD cX12_keep 31 33 (.iload 4) 2 := by decide +kernel
theorem kX12_keep_33 : zD cX12_keep 33 34 (.iconst 0) 1 := by decide +kernel
theorem kX12_keep_34 : zD cX12_keep 34 36 (.bipush 9) 2 := by decide +kernel
theorem kX12_keep_36 : zD cX12_keep 36 39 (.invokestatic 53) 3 := by decide +kernel
theorem kX12_keep_39 : zB cX12_keep 39 42 44 (.ifCond .ne 5) 5 := by decide +kernel
theorem kX12_keep_42 : zD cX12_keep 42 43 (.iconst (-1)) 1 := by decide +kernel
theorem kX12_keep_43 : zD cX12_keep 43 44 (.ireturn) 1 := by decide +kernel
theorem kX12_keep_44 : zD cX12_keep 44 45 (.aload_n 0) 1 := by decide +kernel
theorem kX12_keep_45 : zD cX12_keep 45 48 (.getfield 35) 3 := by decide +kernel
theorem kX12_keep_48 : zD cX12_keep 48 49 (.iload_n 1) 1 := by decide +kernel
theorem kX12_keep_49 : zD cX12_keep 49 50 (.iload_n 2) 1 := by decide +kernel
theorem kX12_keep_50 : zD cX12_keep 50 51 (.iastore) 1 := by decide +kernel
theorem kX12_keep_51 : zD cX12_keep 51 52 (.aload_n 0) 1 := by decide +kernel
theorem kX12_keep_52 : zD cX12_keep 52 55 (.getfield 38) 3 := by decide +kernel
theorem kX12_keep_55 : zD cX12_keep 55 56 (.iload_n 1) 1 := by decide +kernel
theorem kX12_keep_56 : zD cX12_keep 56 57 (.iload_n 3) 1 := by decide +kernel
theorem kX12_keep_57 : zD cX12_keep 57 58 (.iastore) 1 := by decide +kernel
theorem kX12_keep_58 : zD cX12_keep 58 59 (.aload_n 0) 1 := by decide +kernel
theorem kX12_keep_59 : zD cX12_keep 59 62 (.getfield 41) 3 := by decide +kernel
theorem kX12_keep_62 : zD cX12_keep 62 63 (.iload_n 1) 1 := by decide +kernel
theorem kX12_keep_63 : zD cX12_keep 63 65 (.iload 4) 2 := by decide +kernel
theorem kX12_keep_65 : zD cX12_keep 65 66 (.iastore) 1 := by decide +kernel
theorem kX12_keep_66 : zD cX12_keep 66 67 (.iconst 0) 1 := by decide +kernel
theorem kX12_keep_67 : zD cX12_keep 67 68 (.ireturn) 1 := by decide +kernel
set_option maxRecDepth 10000 in
theorem wX12_keep_0 {G : ZG} {d : Nat} {h : ZH} {Q : Option ZV → ZH → Prop} {x1 : Int32} {x2 : Int32} {x3 : Int32} {x4 : Int32} 
  (H : (¬ (0 ≤ x1 ∧ x1 ≤ 7) → Q (some (zi (-1))) h) ∧ ((0 ≤ x1 ∧ x1 ≤ 7) → (¬ ((0 : Int32) ≤ x2 ∧ x2 ≤ (1 : Int32)) → Q (some (zi (-1))) h) ∧ (((0 : Int32) ≤ x2 ∧ x2 ≤ (1 : Int32)) → (¬ x2 = 1 → vp_in x1 8 ∧ (∀ h1 : ZH, h1 = zs1 h 38 0 x1.toNatClampNeg x2 → vp_in x1 8 ∧ (∀ h2 : ZH, h2 = zs1 h1 39 0 x1.toNatClampNeg x3 → vp_in x1 8 ∧ (∀ h3 : ZH, h3 = zs1 h2 40 0 x1.toNatClampNeg x4 → Q (some (zi 0)) h3)))) ∧ (x2 = 1 → (¬ ((0 : Int32) ≤ x3 ∧ x3 ≤ (7 : Int32)) → Q (some (zi (-1))) h) ∧ (((0 : Int32) ≤ x3 ∧ x3 ≤ (7 : Int32)) → (((0 : Int32) ≤ x4 ∧ x4 ≤ (9 : Int32)) → vp_in x1 8 ∧ (∀ h4 : ZH, h4 = zs1 h 38 0 x1.toNatClampNeg x2 → vp_in x1 8 ∧ (∀ h5 : ZH, h5 = zs1 h4 39 0 x1.toNatClampNeg x3 → vp_in x1 8 ∧ (∀ h6 : ZH, h6 = zs1 h5 40 0 x1.toNatClampNeg x4 → Q (some (zi 0)) h6)))) ∧ (¬ ((0 : Int32) ≤ x4 ∧ x4 ≤ (9 : Int32)) → Q (some (zi (-1))) h)))))) :
  zT G (d + 3) mX12_keep 0 [zr 5 0, zi x1, zi x2, zi x3, zi x4] [] h Q := by
  refine zt_iload_n kX12_keep_0 rfl ?_
  refine zt_cS (as := [zi x1]) kX12_keep_1 sRX12_241 rfl (by simp) rfl (sX12_isShelf _  ) (fun r h0 hq => ?_)
  obtain ⟨rfl, hh⟩ := hq
  replace hh := hh.symm
  subst hh
  refine zt_ifb_eq kX12_keep_4 (fun c => ?_) (fun c => ?_)
  · replace H := H.1 c
    refine zt_iconst (v := (-1)) kX12_keep_42 rfl ?_
    exact zt_iret kX12_keep_43 rfl H
  · replace H := H.2 c
    refine zt_iload_n kX12_keep_7 rfl ?_
    refine zt_iconst (v := 0) kX12_keep_8 rfl ?_
    refine zt_iconst (v := 1) kX12_keep_9 rfl ?_
    refine zt_cS (as := [zi x2, zi 0, zi 1]) kX12_keep_10 sRX12_53 rfl (by simp) rfl (sX12_isIn _  ) (fun r h0 hq => ?_)
    obtain ⟨rfl, hh⟩ := hq
    replace hh := hh.symm
    subst hh
    refine zt_ifb_eq kX12_keep_13 (fun c => ?_) (fun c => ?_)
    · replace H := H.1 c
      refine zt_iconst (v := (-1)) kX12_keep_42 rfl ?_
      exact zt_iret kX12_keep_43 rfl H
    · replace H := H.2 c
      refine zt_iload_n kX12_keep_16 rfl ?_
      refine zt_iconst (v := 1) kX12_keep_17 rfl ?_
      refine zt_icmp_ne kX12_keep_18 (fun c => ?_) (fun c => ?_)
      · replace H := H.1 c
        refine zt_aload_n kX12_keep_44 rfl ?_
        refine zt_get (v := zr 38 0) kX12_keep_45 fRX12_35 rfl (by decide) rfl ?_
        refine zt_iload_n kX12_keep_48 rfl ?_
        refine zt_iload_n kX12_keep_49 rfl ?_
        obtain ⟨hv, H⟩ := H
        refine zt_iast kX12_keep_50 rfl (by decide) hv ?_
        refine zt_heap (fun h1 eh1 => ?_)
        replace H := H h1 eh1
        refine zt_aload_n kX12_keep_51 rfl ?_
        refine zt_get (v := zr 39 0) kX12_keep_52 fRX12_38 rfl (by decide) rfl ?_
        refine zt_iload_n kX12_keep_55 rfl ?_
        refine zt_iload_n kX12_keep_56 rfl ?_
        obtain ⟨hv, H⟩ := H
        refine zt_iast kX12_keep_57 rfl (by decide) hv ?_
        refine zt_heap (fun h2 eh2 => ?_)
        replace H := H h2 eh2
        refine zt_aload_n kX12_keep_58 rfl ?_
        refine zt_get (v := zr 40 0) kX12_keep_59 fRX12_41 rfl (by decide) rfl ?_
        refine zt_iload_n kX12_keep_62 rfl ?_
        refine zt_iload kX12_keep_63 rfl ?_
        obtain ⟨hv, H⟩ := H
        refine zt_iast kX12_keep_65 rfl (by decide) hv ?_
        refine zt_heap (fun h3 eh3 => ?_)
        replace H := H h3 eh3
        refine zt_iconst (v := 0) kX12_keep_66 rfl ?_
        exact zt_iret kX12_keep_67 rfl H
      · replace H := H.2 c
        refine zt_iload_n kX12_keep_21 rfl ?_
        refine zt_iconst (v := 0) kX12_keep_22 rfl ?_
        refine zt_bipush (v := 7) kX12_keep_23 rfl ?_
        refine zt_cS (as := [zi x3, zi 0, zi 7]) kX12_keep_25 sRX12_53 rfl (by simp) rfl (sX12_isIn _  ) (fun r h0 hq => ?_)
        obtain ⟨rfl, hh⟩ := hq
        replace hh := hh.symm
        subst hh
        refine zt_ifb_eq kX12_keep_28 (fun c => ?_) (fun c => ?_)
        · replace H := H.1 c
          refine zt_iconst (v := (-1)) kX12_keep_42 rfl ?_
          exact zt_iret kX12_keep_43 rfl H
        · replace H := H.2 c
          refine zt_iload kX12_keep_31 rfl ?_
          refine zt_iconst (v := 0) kX12_keep_33 rfl ?_
          refine zt_bipush (v := 9) kX12_keep_34 rfl ?_
          refine zt_cS (as := [zi x4, zi 0, zi 9]) kX12_keep_36 sRX12_53 rfl (by simp) rfl (sX12_isIn _  ) (fun r h0 hq => ?_)
          obtain ⟨rfl, hh⟩ := hq
          replace hh := hh.symm
          subst hh
          refine zt_ifb_ne kX12_keep_39 (fun c => ?_) (fun c => ?_)
          · replace H := H.1 c
            refine zt_aload_n kX12_keep_44 rfl ?_
            refine zt_get (v := zr 38 0) kX12_keep_45 fRX12_35 rfl (by decide) rfl ?_
            refine zt_iload_n kX12_keep_48 rfl ?_
            refine zt_iload_n kX12_keep_49 rfl ?_
            obtain ⟨hv, H⟩ := H
            refine zt_iast kX12_keep_50 rfl (by decide) hv ?_
            refine zt_heap (fun h4 eh4 => ?_)
            replace H := H h4 eh4
            refine zt_aload_n kX12_keep_51 rfl ?_
            refine zt_get (v := zr 39 0) kX12_keep_52 fRX12_38 rfl (by decide) rfl ?_
            refine zt_iload_n kX12_keep_55 rfl ?_
            refine zt_iload_n kX12_keep_56 rfl ?_
            obtain ⟨hv, H⟩ := H
            refine zt_iast kX12_keep_57 rfl (by decide) hv ?_
            refine zt_heap (fun h5 eh5 => ?_)
            replace H := H h5 eh5
            refine zt_aload_n kX12_keep_58 rfl ?_
            refine zt_get (v := zr 40 0) kX12_keep_59 fRX12_41 rfl (by decide) rfl ?_
            refine zt_iload_n kX12_keep_62 rfl ?_
            refine zt_iload kX12_keep_63 rfl ?_
            obtain ⟨hv, H⟩ := H
            refine zt_iast kX12_keep_65 rfl (by decide) hv ?_
            refine zt_heap (fun h6 eh6 => ?_)
            replace H := H h6 eh6
            refine zt_iconst (v := 0) kX12_keep_66 rfl ?_
            exact zt_iret kX12_keep_67 rfl H
          · replace H := H.2 c
            refine zt_iconst (v := (-1)) kX12_keep_42 rfl ?_
            exact zt_iret kX12_keep_43 rfl H

theorem kX12_row_0 : zD cX12_row 0 1 (.iload_n 1) 1 := by decide +kernel
theorem kX12_row_1 : zD cX12_row 1 4 (.invokestatic 241) 3 := by decide +kernel
theorem kX12_row_4 : zB cX12_row 4 7 22 (.ifCond .eq 18) 18 := by decide +kernel
theorem kX12_row_7 : zD cX12_row 7 8 (.iload_n 2) 1 := by decide +kernel
theorem kX12_row_8 : zD cX12_row 8 9 (.iconst 0) 1 := by decide +kernel
theorem kX12_row_9 : zD cX12_row 9 10 (.iconst 2) 1 := by decide +kernel
theorem kX12_row_10 : zD cX12_row 10 13 (.invokestatic 53) 3 := by decide +kernel
theorem kX12_row_13 : zB cX12_row 13 16 22 (.ifCond .eq 9) 9 := by decide +kernel
theorem kX12_row_16 : zD cX12_row 16 17 (.iload_n 3) 1 := by decide +kernel
theorem kX12_row_17 : zD cX12_row 17 19 (.bipush 100) 2 := by decide +kernel
theorem kX12_row_19 : zB cX12_row 19 22 24 (.if_icmp .le 5) 5 := by decide +kernel
theorem kX12_row_22 : zD cX12_row 22 23 (.iconst (-1)) 1 := by decide +kernel
theorem kX12_row_23 : zD cX12_row 23 24 (.ireturn) 1 := by decide +kernel
theorem kX12_row_24 : zD cX12_row 24 25 (.iload_n 3) 1 := by decide +kernel
theorem kX12_row_25 : zB cX12_row 25 28 31 (.ifCond .ge 6) 6 := by decide +kernel
theorem kX12_row_28 : zD cX12_row 28 30 (.bipush (-14)) 2 := by decide +kernel
theorem kX12_row_30 : zD cX12_row 30 31 (.ireturn) 1 := by decide +kernel
theorem kX12_row_31 : zD cX12_row 31 32 (.aload_n 0) 1 := by decide +kernel
theorem kX12_row_32 : zD cX12_row 32 35 (.getfield 35) 3 := by decide +kernel
theorem kX12_row_35 : zD cX12_row 35 36 (.iload_n 1) 1 := by decide +kernel
theorem kX12_row_36 : zD cX12_row 36 37 (.iconst 2) 1 := by decide +kernel
theorem kX12_row_37 : zD cX12_row 37 38 (.iastore) 1 := by decide +kernel
theorem kX12_row_38 : zD cX12_row 38 39 (.aload_n 0) 1 := by decide +kernel
theorem kX12_row_39 : zD cX12_row 39 42 (.getfield 44) 3 := by decide +kernel
theorem kX12_row_42 : zD cX12_row 42 43 (.iload_n 1) 1 := by decide +kernel
theorem kX12_row_43 : zD cX12_row 43 44 (.iload_n 2) 1 := by decide +kernel
theorem kX12_row_44 : zD cX12_row 44 45 (.iastore) 1 := by decide +kernel
theorem kX12_row_45 : zD cX12_row 45 46 (.aload_n 0) 1 := by decide +kernel
theorem kX12_row_46 : zD cX12_row 46 49 (.getfield 47) 3 := by decide +kernel
theorem kX12_row_49 : zD cX12_row 49 50 (.iload_n 1) 1 := by decide +kernel
theorem kX12_row_50 : zD cX12_row 50 51 (.iload_n 3) 1 := by decide +kernel
theorem kX12_row_51 : zD cX12_row 51 52 (.iastore) 1 := by decide +kernel
theorem kX12_row_52 : zD cX12_row 52 53 (.iconst 0) 1 := by decide +kernel
theorem kX12_row_53 : zD cX12_row 53 55 (.istore 4) 2 := by decide +kernel
theorem kX12_row_55 : zD cX12_row 55 57 (.iload 4) 2 := by decide +kernel
theorem kX12_row_57 : zD cX12_row 57 59 (.bipush 100) 2 := by decide +kernel
theorem kX12_row_59 : zB cX12_row 59 62 81 (.if_icmp .ge 22) 22 := by decide +kernel
theorem kX12_row_62 : zD cX12_row 62 63 (.aload_n 0) 1 := by decide +kernel
theorem kX12_row_63 : zD cX12_row 63 66 (.getfield 50) 3 := by decide +kernel
theorem kX12_row_66 : zD cX12_row 66 68 (.bipush 100) 2 := by decide +kernel
theorem kX12_row_68 : zD cX12_row 68 69 (.iload_n 1) 1 := by decide +kernel
theorem kX12_row_69 : zD cX12_row 69 70 (.imul) 1 := by decide +kernel
theorem kX12_row_70 : zD cX12_row 70 72 (.iload 4) 2 := by decide +kernel
theorem kX12_row_72 : zD cX12_row 72 73 (.iadd) 1 := by decide +kernel
theorem kX12_row_73 : zD cX12_row 73 74 (.iconst 0) 1 := by decide +kernel
theorem kX12_row_74 : zD cX12_row 74 75 (.iastore) 1 := by decide +kernel
theorem kX12_row_75 : zD cX12_row 75 78 (.iinc 4 1) 3 := by decide +kernel
theorem kX12_row_78 : zB cX12_row 78 81 55 (.goto (-23)) (-23) := by decide +kernel
theorem kX12_row_81 : zD cX12_row 81 82 (.iconst 0) 1 := by decide +kernel
theorem kX12_row_82 : zD cX12_row 82 83 (.ireturn) 1 := by decide +kernel
set_option maxRecDepth 10000 in
theorem wX12_row_0 {G : ZG} {d : Nat} {h : ZH} {Q : Option ZV → ZH → Prop} {x1 : Int32} {x2 : Int32} {x3 : Int32} 
  (H : (¬ (0 ≤ x1 ∧ x1 ≤ 7) → Q (some (zi (-1))) h) ∧ ((0 ≤ x1 ∧ x1 ≤ 7) → (¬ ((0 : Int32) ≤ x2 ∧ x2 ≤ (2 : Int32)) → Q (some (zi (-1))) h) ∧ (((0 : Int32) ≤ x2 ∧ x2 ≤ (2 : Int32)) → (x3 ≤ 100 → (0 ≤ x3 → vp_in x1 8 ∧ (∀ h1 : ZH, h1 = zs1 h 38 0 x1.toNatClampNeg 2 → vp_in x1 8 ∧ (∀ h2 : ZH, h2 = zs1 h1 41 0 x1.toNatClampNeg x2 → vp_in x1 8 ∧ (∀ h3 : ZH, h3 = zs1 h2 42 0 x1.toNatClampNeg x3 → zT G (d + 3) mX12_row 55 [zr 5 0, zi x1, zi x2, zi x3, zi 0] [] h3 Q)))) ∧ (¬ 0 ≤ x3 → Q (some (zi (-14))) h)) ∧ (¬ x3 ≤ 100 → Q (some (zi (-1))) h)))) :
  zT G (d + 3) mX12_row 0 [zr 5 0, zi x1, zi x2, zi x3, zu] [] h Q := by
  refine zt_iload_n kX12_row_0 rfl ?_
  refine zt_cS (as := [zi x1]) kX12_row_1 sRX12_241 rfl (by simp) rfl (sX12_isShelf _  ) (fun r h0 hq => ?_)
  obtain ⟨rfl, hh⟩ := hq
  replace hh := hh.symm
  subst hh
  refine zt_ifb_eq kX12_row_4 (fun c => ?_) (fun c => ?_)
  · replace H := H.1 c
    refine zt_iconst (v := (-1)) kX12_row_22 rfl ?_
    exact zt_iret kX12_row_23 rfl H
  · replace H := H.2 c
    refine zt_iload_n kX12_row_7 rfl ?_
    refine zt_iconst (v := 0) kX12_row_8 rfl ?_
    refine zt_iconst (v := 2) kX12_row_9 rfl ?_
    refine zt_cS (as := [zi x2, zi 0, zi 2]) kX12_row_10 sRX12_53 rfl (by simp) rfl (sX12_isIn _  ) (fun r h0 hq => ?_)
    obtain ⟨rfl, hh⟩ := hq
    replace hh := hh.symm
    subst hh
    refine zt_ifb_eq kX12_row_13 (fun c => ?_) (fun c => ?_)
    · replace H := H.1 c
      refine zt_iconst (v := (-1)) kX12_row_22 rfl ?_
      exact zt_iret kX12_row_23 rfl H
    · replace H := H.2 c
      refine zt_iload_n kX12_row_16 rfl ?_
      refine zt_bipush (v := 100) kX12_row_17 rfl ?_
      refine zt_icmp_le kX12_row_19 (fun c => ?_) (fun c => ?_)
      · replace H := H.1 c
        refine zt_iload_n kX12_row_24 rfl ?_
        refine zt_if_ge kX12_row_25 (fun c => ?_) (fun c => ?_)
        · replace H := H.1 c
          refine zt_aload_n kX12_row_31 rfl ?_
          refine zt_get (v := zr 38 0) kX12_row_32 fRX12_35 rfl (by decide) rfl ?_
          refine zt_iload_n kX12_row_35 rfl ?_
          refine zt_iconst (v := 2) kX12_row_36 rfl ?_
          obtain ⟨hv, H⟩ := H
          refine zt_iast kX12_row_37 rfl (by decide) hv ?_
          refine zt_heap (fun h1 eh1 => ?_)
          replace H := H h1 eh1
          refine zt_aload_n kX12_row_38 rfl ?_
          refine zt_get (v := zr 41 0) kX12_row_39 fRX12_44 rfl (by decide) rfl ?_
          refine zt_iload_n kX12_row_42 rfl ?_
          refine zt_iload_n kX12_row_43 rfl ?_
          obtain ⟨hv, H⟩ := H
          refine zt_iast kX12_row_44 rfl (by decide) hv ?_
          refine zt_heap (fun h2 eh2 => ?_)
          replace H := H h2 eh2
          refine zt_aload_n kX12_row_45 rfl ?_
          refine zt_get (v := zr 42 0) kX12_row_46 fRX12_47 rfl (by decide) rfl ?_
          refine zt_iload_n kX12_row_49 rfl ?_
          refine zt_iload_n kX12_row_50 rfl ?_
          obtain ⟨hv, H⟩ := H
          refine zt_iast kX12_row_51 rfl (by decide) hv ?_
          refine zt_heap (fun h3 eh3 => ?_)
          replace H := H h3 eh3
          refine zt_iconst (v := 0) kX12_row_52 rfl ?_
          refine zt_istore (L' := [zr 5 0, zi x1, zi x2, zi x3, zi 0]) kX12_row_53 (by decide) rfl ?_
          exact H
        · replace H := H.2 c
          refine zt_bipush (v := (-14)) kX12_row_28 rfl ?_
          exact zt_iret kX12_row_30 rfl H
      · replace H := H.2 c
        refine zt_iconst (v := (-1)) kX12_row_22 rfl ?_
        exact zt_iret kX12_row_23 rfl H

set_option maxRecDepth 10000 in
theorem wX12_row_55 {G : ZG} {d : Nat} {h : ZH} {Q : Option ZV → ZH → Prop} {x1 : Int32} {x2 : Int32} {x3 : Int32} {x4 : Int32} 
  (H : (100 ≤ x4 → Q (some (zi 0)) h) ∧ (¬ 100 ≤ x4 → vp_in ((100 * x1) + x4) 800 ∧ (∀ h1 : ZH, h1 = zs1 h 43 0 ((100 * x1) + x4).toNatClampNeg 0 → zT G (d + 3) mX12_row 55 [zr 5 0, zi x1, zi x2, zi x3, zi (x4 + 1)] [] h1 Q))) :
  zT G (d + 3) mX12_row 55 [zr 5 0, zi x1, zi x2, zi x3, zi x4] [] h Q := by
  refine zt_iload kX12_row_55 rfl ?_
  refine zt_bipush (v := 100) kX12_row_57 rfl ?_
  refine zt_icmp_ge kX12_row_59 (fun c => ?_) (fun c => ?_)
  · replace H := H.1 c
    refine zt_iconst (v := 0) kX12_row_81 rfl ?_
    exact zt_iret kX12_row_82 rfl H
  · replace H := H.2 c
    refine zt_aload_n kX12_row_62 rfl ?_
    refine zt_get (v := zr 43 0) kX12_row_63 fRX12_50 rfl (by decide) rfl ?_
    refine zt_bipush (v := 100) kX12_row_66 rfl ?_
    refine zt_iload_n kX12_row_68 rfl ?_
    refine zt_imul kX12_row_69 ?_
    refine zt_iload kX12_row_70 rfl ?_
    refine zt_iadd kX12_row_72 ?_
    refine zt_iconst (v := 0) kX12_row_73 rfl ?_
    obtain ⟨hv, H⟩ := H
    refine zt_iast kX12_row_74 rfl (by decide) hv ?_
    refine zt_heap (fun h1 eh1 => ?_)
    replace H := H h1 eh1
    refine zt_iinc (v := (x4 + 1)) (L' := [zr 5 0, zi x1, zi x2, zi x3, zi (x4 + 1)]) kX12_row_75 rfl rfl (by decide) rfl ?_
    refine zt_goto kX12_row_78 ?_
    exact H

theorem kX12_put_0 : zD cX12_put 0 1 (.aload_n 0) 1 := by decide +kernel
theorem kX12_put_1 : zD cX12_put 1 2 (.iload_n 1) 1 := by decide +kernel
theorem kX12_put_2 : zD cX12_put 2 3 (.iconst (-1)) 1 := by decide +kernel
theorem kX12_put_3 : zD cX12_put 3 6 (.invokevirtual 140) 3 := by decide +kernel
theorem kX12_put_6 : zD cX12_put 6 8 (.istore 4) 2 := by decide +kernel
theorem kX12_put_8 : zD cX12_put 8 10 (.iload 4) 2 := by decide +kernel
theorem kX12_put_10 : zB cX12_put 10 13 16 (.ifCond .eq 6) 6 := by decide +kernel
theorem kX12_put_13 : zD cX12_put 13 15 (.iload 4) 2 := by decide +kernel
theorem kX12_put_15 : zD cX12_put 15 16 (.ireturn) 1 := by decide +kernel
theorem kX12_put_16 : zD cX12_put 16 17 (.iload_n 2) 1 := by decide +kernel
theorem kX12_put_17 : zD cX12_put 17 18 (.iconst 0) 1 := by decide +kernel
theorem kX12_put_18 : zD cX12_put 18 19 (.aload_n 0) 1 := by decide +kernel
theorem kX12_put_19 : zD cX12_put 19 22 (.getfield 47) 3 := by decide +kernel
theorem kX12_put_22 : zD cX12_put 22 23 (.iload_n 1) 1 := by decide +kernel
theorem kX12_put_23 : zD cX12_put 23 24 (.iaload) 1 := by decide +kernel
theorem kX12_put_24 : zD cX12_put 24 25 (.iconst 1) 1 := by decide +kernel
theorem kX12_put_25 : zD cX12_put 25 26 (.isub) 1 := by decide +kernel
theorem kX12_put_26 : zD cX12_put 26 29 (.invokestatic 53) 3 := by decide +kernel
theorem kX12_put_29 : zB cX12_put 29 32 35 (.ifCond .ne 6) 6 := by decide +kernel
theorem kX12_put_32 : zD cX12_put 32 34 (.bipush (-13)) 2 := by decide +kernel
theorem kX12_put_34 : zD cX12_put 34 35 (.ireturn) 1 := by decide +kernel
theorem kX12_put_35 : zD cX12_put 35 36 (.aload_n 0) 1 := by decide +kernel
theorem kX12_put_36 : zD cX12_put 36 39 (.getfield 50) 3 := by decide +kernel
theorem kX12_put_39 : zD cX12_put 39 41 (.bipush 100) 2 := by decide +kernel
theorem kX12_put_41 : zD cX12_put 41 42 (.iload_n 1) 1 := by decide +kernel
theorem kX12_put_42 : zD cX12_put 42 43 (.imul) 1 := by decide +kernel
theorem kX12_put_43 : zD cX12_put 43 44 (.iload_n 2) 1 := by decide +kernel
theorem kX12_put_44 : zD cX12_put 44 45 (.iadd) 1 := by decide +kernel
theorem kX12_put_45 : zD cX12_put 45 46 (.aload_n 0) 1 := by decide +kernel
theorem kX12_put_46 : zD cX12_put 46 49 (.getfield 44) 3 := by decide +kernel
theorem kX12_put_49 : zD cX12_put 49 50 (.iload_n 1) 1 := by decide +kernel
theorem kX12_put_50 : zD cX12_put 50 51 (.iaload) 1 := by decide +kernel
theorem kX12_put_51 : zB cX12_put 51 54 59 (.ifCond .ne 8) 8 := by decide +kernel
theorem kX12_put_54 : zD cX12_put 54 55 (.iload_n 3) 1 := by decide +kernel
theorem kX12_put_55 : zD cX12_put 55 56 (.i2b) 1 := by decide +kernel
theorem kX12_put_56 : zB cX12_put 56 59 75 (.goto 19) 19 := by decide +kernel
theorem kX12_put_59 : zD cX12_put 59 60 (.aload_n 0) 1 := by decide +kernel
theorem kX12_put_60 : zD cX12_put 60 63 (.getfield 44) 3 := by decide +kernel
theorem kX12_put_63 : zD cX12_put 63 64 (.iload_n 1) 1 := by decide +kernel
theorem kX12_put_64 : zD cX12_put 64 65 (.iaload) 1 := by decide +kernel
theorem kX12_put_65 : zD cX12_put 65 66 (.iconst 1) 1 := by decide +kernel
theorem kX12_put_66 : zB cX12_put 66 69 74 (.if_icmp .ne 8) 8 := by decide +kernel
theorem kX12_put_69 : zD cX12_put 69 70 (.iload_n 3) 1 := by decide +kernel
theorem kX12_put_70 : zD cX12_put 70 71 (.i2s) 1 := by decide +kernel
theorem kX12_put_71 : zB cX12_put 71 74 75 (.goto 4) 4 := by decide +kernel
theorem kX12_put_74 : zD cX12_put 74 75 (.iload_n 3) 1 := by decide +kernel
theorem kX12_put_75 : zD cX12_put 75 76 (.iastore) 1 := by decide +kernel
theorem kX12_put_76 : zD cX12_put 76 77 (.iconst 0) 1 := by decide +kernel
theorem kX12_put_77 : zD cX12_put 77 78 (.ireturn) 1 := by decide +kernel
set_option maxRecDepth 10000 in
theorem wX12_put_0 {G : ZG} {d : Nat} {h : ZH} {Q : Option ZV → ZH → Prop} {x1 : Int32} {x2 : Int32} {x3 : Int32} 
  (H : ((wRowI h x1 ((-1) : Int32)) = 0 → vp_in x1 8 ∧ (((0 : Int32) ≤ x2 ∧ x2 ≤ ((h.1 42 0 x1.toNatClampNeg) - 1)) → vp_in x1 8 ∧ (¬ (h.1 41 0 x1.toNatClampNeg) = 0 → vp_in x1 8 ∧ (¬ (h.1 41 0 x1.toNatClampNeg) = 1 → vp_in ((100 * x1) + x2) 800 ∧ (∀ h1 : ZH, h1 = zs1 h 43 0 ((100 * x1) + x2).toNatClampNeg x3 → Q (some (zi 0)) h1)) ∧ ((h.1 41 0 x1.toNatClampNeg) = 1 → vp_in ((100 * x1) + x2) 800 ∧ (∀ h2 : ZH, h2 = zs1 h 43 0 ((100 * x1) + x2).toNatClampNeg (x3).toInt16.toInt32 → Q (some (zi 0)) h2))) ∧ ((h.1 41 0 x1.toNatClampNeg) = 0 → vp_in ((100 * x1) + x2) 800 ∧ (∀ h3 : ZH, h3 = zs1 h 43 0 ((100 * x1) + x2).toNatClampNeg (x3).toInt8.toInt32 → Q (some (zi 0)) h3))) ∧ (¬ ((0 : Int32) ≤ x2 ∧ x2 ≤ ((h.1 42 0 x1.toNatClampNeg) - 1)) → Q (some (zi (-13))) h)) ∧ (¬ (wRowI h x1 ((-1) : Int32)) = 0 → Q (some (zi (wRowI h x1 ((-1) : Int32)))) h)) :
  zT G (d + 4) mX12_put 0 [zr 5 0, zi x1, zi x2, zi x3, zu] [] h Q := by
  refine zt_aload_n kX12_put_0 rfl ?_
  refine zt_iload_n kX12_put_1 rfl ?_
  refine zt_iconst (v := (-1)) kX12_put_2 rfl ?_
  refine zt_cV (as := [zi x1, zi (-1)]) kX12_put_3 sRX12_140 rfl (by decide) rfl (by simp) rfl (sX12_wrongRow _  ) (fun r h0 hq => ?_)
  obtain ⟨rfl, hh⟩ := hq
  replace hh := hh.symm
  subst hh
  refine zt_istore (L' := [zr 5 0, zi x1, zi x2, zi x3, zi (wRowI h x1 ((-1) : Int32))]) kX12_put_6 (by decide) rfl ?_
  refine zt_iload kX12_put_8 rfl ?_
  refine zt_if_eq kX12_put_10 (fun c => ?_) (fun c => ?_)
  · replace H := H.1 c
    refine zt_iload_n kX12_put_16 rfl ?_
    refine zt_iconst (v := 0) kX12_put_17 rfl ?_
    refine zt_aload_n kX12_put_18 rfl ?_
    refine zt_get (v := zr 42 0) kX12_put_19 fRX12_47 rfl (by decide) rfl ?_
    refine zt_iload_n kX12_put_22 rfl ?_
    obtain ⟨hv, H⟩ := H
    refine zt_iald kX12_put_23 rfl (by decide) hv ?_
    refine zt_iconst (v := 1) kX12_put_24 rfl ?_
    refine zt_isub kX12_put_25 ?_
    refine zt_cS (as := [zi x2, zi 0, zi ((h.1 42 0 x1.toNatClampNeg) - 1)]) kX12_put_26 sRX12_53 rfl (by simp) rfl (sX12_isIn _  ) (fun r h0 hq => ?_)
    obtain ⟨rfl, hh⟩ := hq
    replace hh := hh.symm
    subst hh
    refine zt_ifb_ne kX12_put_29 (fun c => ?_) (fun c => ?_)
    · replace H := H.1 c
      refine zt_aload_n kX12_put_35 rfl ?_
      refine zt_get (v := zr 43 0) kX12_put_36 fRX12_50 rfl (by decide) rfl ?_
      refine zt_bipush (v := 100) kX12_put_39 rfl ?_
      refine zt_iload_n kX12_put_41 rfl ?_
      refine zt_imul kX12_put_42 ?_
      refine zt_iload_n kX12_put_43 rfl ?_
      refine zt_iadd kX12_put_44 ?_
      refine zt_aload_n kX12_put_45 rfl ?_
      refine zt_get (v := zr 41 0) kX12_put_46 fRX12_44 rfl (by decide) rfl ?_
      refine zt_iload_n kX12_put_49 rfl ?_
      obtain ⟨hv, H⟩ := H
      refine zt_iald kX12_put_50 rfl (by decide) hv ?_
      refine zt_if_ne kX12_put_51 (fun c => ?_) (fun c => ?_)
      · replace H := H.1 c
        refine zt_aload_n kX12_put_59 rfl ?_
        refine zt_get (v := zr 41 0) kX12_put_60 fRX12_44 rfl (by decide) rfl ?_
        refine zt_iload_n kX12_put_63 rfl ?_
        obtain ⟨hv, H⟩ := H
        refine zt_iald kX12_put_64 rfl (by decide) hv ?_
        refine zt_iconst (v := 1) kX12_put_65 rfl ?_
        refine zt_icmp_ne kX12_put_66 (fun c => ?_) (fun c => ?_)
        · replace H := H.1 c
          refine zt_iload_n kX12_put_74 rfl ?_
          obtain ⟨hv, H⟩ := H
          refine zt_iast kX12_put_75 rfl (by decide) hv ?_
          refine zt_heap (fun h1 eh1 => ?_)
          replace H := H h1 eh1
          refine zt_iconst (v := 0) kX12_put_76 rfl ?_
          exact zt_iret kX12_put_77 rfl H
        · replace H := H.2 c
          refine zt_iload_n kX12_put_69 rfl ?_
          refine zt_i2s kX12_put_70 ?_
          refine zt_goto kX12_put_71 ?_
          obtain ⟨hv, H⟩ := H
          refine zt_iast kX12_put_75 rfl (by decide) hv ?_
          refine zt_heap (fun h2 eh2 => ?_)
          replace H := H h2 eh2
          refine zt_iconst (v := 0) kX12_put_76 rfl ?_
          exact zt_iret kX12_put_77 rfl H
      · replace H := H.2 c
        refine zt_iload_n kX12_put_54 rfl ?_
        refine zt_i2b kX12_put_55 ?_
        refine zt_goto kX12_put_56 ?_
        obtain ⟨hv, H⟩ := H
        refine zt_iast kX12_put_75 rfl (by decide) hv ?_
        refine zt_heap (fun h3 eh3 => ?_)
        replace H := H h3 eh3
        refine zt_iconst (v := 0) kX12_put_76 rfl ?_
        exact zt_iret kX12_put_77 rfl H
    · replace H := H.2 c
      refine zt_bipush (v := (-13)) kX12_put_32 rfl ?_
      exact zt_iret kX12_put_34 rfl H
  · replace H := H.2 c
    refine zt_iload kX12_put_13 rfl ?_
    exact zt_iret kX12_put_15 rfl H

theorem kX12_copy_0 : zD cX12_copy 0 1 (.iload_n 1) 1 := by decide +kernel
theorem kX12_copy_1 : zD cX12_copy 1 4 (.invokestatic 241) 3 := by decide +kernel
theorem kX12_copy_4 : zB cX12_copy 4 7 14 (.ifCond .eq 10) 10 := by decide +kernel
theorem kX12_copy_7 : zD cX12_copy 7 8 (.iload_n 3) 1 := by decide +kernel
theorem kX12_copy_8 : zD cX12_copy 8 11 (.invokestatic 241) 3 := by decide +kernel
theorem kX12_copy_11 : zB cX12_copy 11 14 16 (.ifCond .ne 5) 5 := by decide +kernel
theorem kX12_copy_14 : zD cX12_copy 14 15 (.iconst (-1)) 1 := by decide +kernel
theorem kX12_copy_15 : zD cX12_copy 15 16 (.ireturn) 1 := by decide +kernel
theorem kX12_copy_16 : zD cX12_copy 16 17 (.aload_n 0) 1 := by decide +kernel
theorem kX12_copy_17 : zD cX12_copy 17 20 (.getfield 35) 3 := by decide +kernel
theorem kX12_copy_20 : zD cX12_copy 20 21 (.iload_n 1) 1 := by decide +kernel
theorem kX12_copy_21 : zD cX12_copy 21 22 (.iaload) 1 := by decide +kernel
theorem kX12_copy_22 : zB cX12_copy 22 25 34 (.ifCond .eq 12) 12 := by decide +kernel
theorem kX12_copy_25 : zD cX12_copy 25 26 (.aload_n 0) 1 := by decide +kernel
theorem kX12_copy_26 : zD cX12_copy 26 29 (.getfield 35) 3 := by decide +kernel
theorem kX12_copy_29 : zD cX12_copy 29 30 (.iload_n 3) 1 := by decide +kernel
theorem kX12_copy_30 : zD cX12_copy 30 31 (.iaload) 1 := by decide +kernel
theorem kX12_copy_31 : zB cX12_copy 31 34 37 (.ifCond .ne 6) 6 := by decide +kernel
theorem kX12_copy_34 : zD cX12_copy 34 36 (.bipush (-11)) 2 := by decide +kernel
theorem kX12_copy_36 : zD cX12_copy 36 37 (.ireturn) 1 := by decide +kernel
theorem kX12_copy_37 : zD cX12_copy 37 38 (.aload_n 0) 1 := by decide +kernel
theorem kX12_copy_38 : zD cX12_copy 38 41 (.getfield 35) 3 := by decide +kernel
theorem kX12_copy_41 : zD cX12_copy 41 42 (.iload_n 1) 1 := by decide +kernel
theorem kX12_copy_42 : zD cX12_copy 42 43 (.iaload) 1 := by decide +kernel
theorem kX12_copy_43 : zD cX12_copy 43 44 (.iconst 2) 1 := by decide +kernel
theorem kX12_copy_44 : zB cX12_copy 44 47 72 (.if_icmp .ne 28) 28 := by decide +kernel
theorem kX12_copy_47 : zD cX12_copy 47 48 (.aload_n 0) 1 := by decide +kernel
theorem kX12_copy_48 : zD cX12_copy 48 51 (.getfield 35) 3 := by decide +kernel
theorem kX12_copy_51 : zD cX12_copy 51 52 (.iload_n 3) 1 := by decide +kernel
theorem kX12_copy_52 : zD cX12_copy 52 53 (.iaload) 1 := by decide +kernel
theorem kX12_copy_53 : zD cX12_copy 53 54 (.iconst 2) 1 := by decide +kernel
theorem kX12_copy_54 : zB cX12_copy 54 57 72 (.if_icmp .ne 18) 18 := by decide +kernel
theorem kX12_copy_57 : zD cX12_copy 57 58 (.aload_n 0) 1 := by decide +kernel
theorem kX12_copy_58 : zD cX12_copy 58 61 (.getfield 44) 3 := by decide +kernel
theorem kX12_copy_61 : zD cX12_copy 61 62 (.iload_n 1) 1 := by decide +kernel
theorem kX12_copy_62 : zD cX12_copy 62 63 (.iaload) 1 := by decide +kernel
theorem kX12_copy_63 : zD cX12_copy 63 64 (.aload_n 0) 1 := by decide +kernel
theorem kX12_copy_64 : zD cX12_copy 64 67 (.getfield 44) 3 := by decide +kernel
theorem kX12_copy_67 : zD cX12_copy 67 68 (.iload_n 3) 1 := by decide +kernel
theorem kX12_copy_68 : zD cX12_copy 68 69 (.iaload) 1 := by decide +kernel
theorem kX12_copy_69 : zB cX12_copy 69 72 75 (.if_icmp .eq 6) 6 := by decide +kernel
theorem kX12_copy_72 : zD cX12_copy 72 74 (.bipush (-12)) 2 := by decide +kernel
theorem kX12_copy_74 : zD cX12_copy 74 75 (.ireturn) 1 := by decide +kernel
theorem kX12_copy_75 : zD cX12_copy 75 77 (.iload 5) 2 := by decide +kernel
theorem kX12_copy_77 : zB cX12_copy 77 80 116 (.ifCond .lt 39) 39 := by decide +kernel
theorem kX12_copy_80 : zD cX12_copy 80 81 (.iload_n 2) 1 := by decide +kernel
theorem kX12_copy_81 : zB cX12_copy 81 84 116 (.ifCond .lt 35) 35 := by decide +kernel
theorem kX12_copy_84 : zD cX12_copy 84 86 (.iload 4) 2 := by decide +kernel
theorem kX12_copy_86 : zB cX12_copy 86 89 116 (.ifCond .lt 30) 30 := by decide +kernel
theorem kX12_copy_89 : zD cX12_copy 89 91 (.iload 5) 2 := by decide +kernel
theorem kX12_copy_91 : zD cX12_copy 91 92 (.aload_n 0) 1 := by decide +kernel
theorem kX12_copy_92 : zD cX12_copy 92 95 (.getfield 47) 3 := by decide +kernel
theorem kX12_copy_95 : zD cX12_copy 95 96 (.iload_n 1) 1 := by decide +kernel
theorem kX12_copy_96 : zD cX12_copy 96 97 (.iaload) 1 := by decide +kernel
theorem kX12_copy_97 : zD cX12_copy 97 98 (.iload_n 2) 1 := by decide +kernel
theorem kX12_copy_98 : zD cX12_copy 98 99 (.isub) 1 := by decide +kernel
theorem kX12_copy_99 : zB cX12_copy 99 102 116 (.if_icmp .gt 17) 17 := by decide +kernel
theorem kX12_copy_102 : zD cX12_copy 102 104 (.iload 5) 2 := by decide +kernel
theorem kX12_copy_104 : zD cX12_copy 104 105 (.aload_n 0) 1 := by decide +kernel
theorem kX12_copy_105 : zD cX12_copy 105 108 (.getfield 47) 3 := by decide +kernel
theorem kX12_copy_108 : zD cX12_copy 108 109 (.iload_n 3) 1 := by decide +kernel
theorem kX12_copy_109 : zD cX12_copy 109 110 (.iaload) 1 := by decide +kernel
theorem kX12_copy_110 : zD cX12_copy 110 112 (.iload 4) 2 := by decide +kernel
theorem kX12_copy_112 : zD cX12_copy 112 113 (.isub) 1 := by decide +kernel
theorem kX12_copy_113 : zB cX12_copy 113 116 119 (.if_icmp .le 6) 6 := by decide +kernel
theorem kX12_copy_116 : zD cX12_copy 116 118 (.bipush (-13)) 2 := by decide +kernel
theorem kX12_copy_118 : zD cX12_copy 118 119 (.ireturn) 1 := by decide +kernel
theorem kX12_copy_119 : zD cX12_copy 119 120 (.iconst 0) 1 := by decide +kernel
theorem kX12_copy_120 : zD cX12_copy 120 122 (.istore 6) 2 := by decide +kernel
theorem kX12_copy_122 : zD cX12_copy 122 124 (.iload 6) 2 := by decide +kernel
theorem kX12_copy_124 : zD cX12_copy 124 126 (.iload 5) 2 := by decide +kernel
theorem kX12_copy_126 : zB cX12_copy 126 129 184 (.if_icmp .ge 58) 58 := by decide +kernel
theorem kX12_copy_129 : zD cX12_copy 129 130 (.iload_n 2) 1 := by decide +kernel
theorem kX12_copy_130 : zD cX12_copy 130 132 (.iload 4) 2 := by decide +kernel
theorem kX12_copy_132 : zB cX12_copy 132 135 140 (.if_icmp .le 8) 8 := by decide +kernel
theorem kX12_copy_135 : zD cX12_copy 135 137 (.iload 6) 2 := by decide +kernel
theorem kX12_copy_137 : zB cX12_copy 137 140 147 (.goto 10) 10 := by decide +kernel
theorem kX12_copy_140 : zD cX12_copy 140 142 (.iload 5) 2 := by decide +kernel
theorem kX12_copy_142 : zD cX12_copy 142 143 (.iconst 1) 1 := by decide +kernel
theorem kX12_copy_143 : zD cX12_copy 143 144 (.isub) 1 := by decide +kernel
theorem kX12_copy_144 : zD cX12_copy 144 146 (.iload 6) 2 := by decide +kernel
theorem kX12_copy_146 : zD cX12_copy 146 147 (.isub) 1 := by decide +kernel
theorem kX12_copy_147 : zD cX12_copy 147 149 (.istore 7) 2 := by decide +kernel
theorem kX12_copy_149 : zD cX12_copy 149 150 (.aload_n 0) 1 := by decide +kernel
theorem kX12_copy_150 : zD cX12_copy 150 153 (.getfield 50) 3 := by decide +kernel
theorem kX12_copy_153 : zD cX12_copy 153 155 (.bipush 100) 2 := by decide +kernel
theorem kX12_copy_155 : zD cX12_copy 155 156 (.iload_n 3) 1 := by decide +kernel
theorem kX12_copy_156 : zD cX12_copy 156 157 (.imul) 1 := by decide +kernel
theorem kX12_copy_157 : zD cX12_copy 157 159 (.iload 4) 2 := by decide +kernel
theorem kX12_copy_159 : zD cX12_copy 159 160 (.iadd) 1 := by decide +kernel
theorem kX12_copy_160 : zD cX12_copy 160 162 (.iload 7) 2 := by decide +kernel
theorem kX12_copy_162 : zD cX12_copy 162 163 (.iadd) 1 := by decide +kernel
theorem kX12_copy_163 : zD cX12_copy 163 164 (.aload_n 0) 1 := by decide +kernel
theorem kX12_copy_164 : zD cX12_copy 164 167 (.getfield 50) 3 := by decide +kernel
theorem kX12_copy_167 : zD cX12_copy 167 169 (.bipush 100) 2 := by decide +kernel
theorem kX12_copy_169 : zD cX12_copy 169 170 (.iload_n 1) 1 := by decide +kernel
theorem kX12_copy_170 : zD cX12_copy 170 171 (.imul) 1 := by decide +kernel
theorem kX12_copy_171 : zD cX12_copy 171 172 (.iload_n 2) 1 := by decide +kernel
theorem kX12_copy_172 : zD cX12_copy 172 173 (.iadd) 1 := by decide +kernel
theorem kX12_copy_173 : zD cX12_copy 173 175 (.iload 7) 2 := by decide +kernel
theorem kX12_copy_175 : zD cX12_copy 175 176 (.iadd) 1 := by decide +kernel
theorem kX12_copy_176 : zD cX12_copy 176 177 (.iaload) 1 := by decide +kernel
theorem kX12_copy_177 : zD cX12_copy 177 178 (.iastore) 1 := by decide +kernel
theorem kX12_copy_178 : zD cX12_copy 178 181 (.iinc 6 1) 3 := by decide +kernel
theorem kX12_copy_181 : zB cX12_copy 181 184 122 (.goto (-59)) (-59) := by decide +kernel
theorem kX12_copy_184 : zD cX12_copy 184 186 (.iload 5) 2 := by decide +kernel
theorem kX12_copy_186 : zD cX12_copy 186 187 (.ireturn) 1 := by decide +kernel
set_option maxRecDepth 10000 in
theorem wX12_copy_0 {G : ZG} {d : Nat} {h : ZH} {Q : Option ZV → ZH → Prop} {x1 : Int32} {x2 : Int32} {x3 : Int32} {x4 : Int32} {x5 : Int32} 
  (H : (¬ (0 ≤ x1 ∧ x1 ≤ 7) → Q (some (zi (-1))) h) ∧ ((0 ≤ x1 ∧ x1 ≤ 7) → ((0 ≤ x3 ∧ x3 ≤ 7) → vp_in x1 8 ∧ ((h.1 38 0 x1.toNatClampNeg) = 0 → Q (some (zi (-11))) h) ∧ (¬ (h.1 38 0 x1.toNatClampNeg) = 0 → vp_in x3 8 ∧ (¬ (h.1 38 0 x3.toNatClampNeg) = 0 → vp_in x1 8 ∧ (¬ (h.1 38 0 x1.toNatClampNeg) = 2 → Q (some (zi (-12))) h) ∧ ((h.1 38 0 x1.toNatClampNeg) = 2 → vp_in x3 8 ∧ (¬ (h.1 38 0 x3.toNatClampNeg) = 2 → Q (some (zi (-12))) h) ∧ ((h.1 38 0 x3.toNatClampNeg) = 2 → vp_in x1 8 ∧ vp_in x3 8 ∧ ((h.1 41 0 x1.toNatClampNeg) = (h.1 41 0 x3.toNatClampNeg) → (x5 < 0 → Q (some (zi (-13))) h) ∧ (¬ x5 < 0 → (x2 < 0 → Q (some (zi (-13))) h) ∧ (¬ x2 < 0 → (x4 < 0 → Q (some (zi (-13))) h) ∧ (¬ x4 < 0 → vp_in x1 8 ∧ (((h.1 42 0 x1.toNatClampNeg) - x2) < x5 → Q (some (zi (-13))) h) ∧ (¬ ((h.1 42 0 x1.toNatClampNeg) - x2) < x5 → vp_in x3 8 ∧ (x5 ≤ ((h.1 42 0 x3.toNatClampNeg) - x4) → zT G (d + 3) mX12_copy 122 [zr 5 0, zi x1, zi x2, zi x3, zi x4, zi x5, zi 0, zu] [] h Q) ∧ (¬ x5 ≤ ((h.1 42 0 x3.toNatClampNeg) - x4) → Q (some (zi (-13))) h)))))) ∧ (¬ (h.1 41 0 x1.toNatClampNeg) = (h.1 41 0 x3.toNatClampNeg) → Q (some (zi (-12))) h)))) ∧ ((h.1 38 0 x3.toNatClampNeg) = 0 → Q (some (zi (-11))) h))) ∧ (¬ (0 ≤ x3 ∧ x3 ≤ 7) → Q (some (zi (-1))) h))) :
  zT G (d + 3) mX12_copy 0 [zr 5 0, zi x1, zi x2, zi x3, zi x4, zi x5, zu, zu] [] h Q := by
  refine zt_iload_n kX12_copy_0 rfl ?_
  refine zt_cS (as := [zi x1]) kX12_copy_1 sRX12_241 rfl (by simp) rfl (sX12_isShelf _  ) (fun r h0 hq => ?_)
  obtain ⟨rfl, hh⟩ := hq
  replace hh := hh.symm
  subst hh
  refine zt_ifb_eq kX12_copy_4 (fun c => ?_) (fun c => ?_)
  · replace H := H.1 c
    refine zt_iconst (v := (-1)) kX12_copy_14 rfl ?_
    exact zt_iret kX12_copy_15 rfl H
  · replace H := H.2 c
    refine zt_iload_n kX12_copy_7 rfl ?_
    refine zt_cS (as := [zi x3]) kX12_copy_8 sRX12_241 rfl (by simp) rfl (sX12_isShelf _  ) (fun r h0 hq => ?_)
    obtain ⟨rfl, hh⟩ := hq
    replace hh := hh.symm
    subst hh
    refine zt_ifb_ne kX12_copy_11 (fun c => ?_) (fun c => ?_)
    · replace H := H.1 c
      refine zt_aload_n kX12_copy_16 rfl ?_
      refine zt_get (v := zr 38 0) kX12_copy_17 fRX12_35 rfl (by decide) rfl ?_
      refine zt_iload_n kX12_copy_20 rfl ?_
      obtain ⟨hv, H⟩ := H
      refine zt_iald kX12_copy_21 rfl (by decide) hv ?_
      refine zt_if_eq kX12_copy_22 (fun c => ?_) (fun c => ?_)
      · replace H := H.1 c
        refine zt_bipush (v := (-11)) kX12_copy_34 rfl ?_
        exact zt_iret kX12_copy_36 rfl H
      · replace H := H.2 c
        refine zt_aload_n kX12_copy_25 rfl ?_
        refine zt_get (v := zr 38 0) kX12_copy_26 fRX12_35 rfl (by decide) rfl ?_
        refine zt_iload_n kX12_copy_29 rfl ?_
        obtain ⟨hv, H⟩ := H
        refine zt_iald kX12_copy_30 rfl (by decide) hv ?_
        refine zt_if_ne kX12_copy_31 (fun c => ?_) (fun c => ?_)
        · replace H := H.1 c
          refine zt_aload_n kX12_copy_37 rfl ?_
          refine zt_get (v := zr 38 0) kX12_copy_38 fRX12_35 rfl (by decide) rfl ?_
          refine zt_iload_n kX12_copy_41 rfl ?_
          obtain ⟨hv, H⟩ := H
          refine zt_iald kX12_copy_42 rfl (by decide) hv ?_
          refine zt_iconst (v := 2) kX12_copy_43 rfl ?_
          refine zt_icmp_ne kX12_copy_44 (fun c => ?_) (fun c => ?_)
          · replace H := H.1 c
            refine zt_bipush (v := (-12)) kX12_copy_72 rfl ?_
            exact zt_iret kX12_copy_74 rfl H
          · replace H := H.2 c
            refine zt_aload_n kX12_copy_47 rfl ?_
            refine zt_get (v := zr 38 0) kX12_copy_48 fRX12_35 rfl (by decide) rfl ?_
            refine zt_iload_n kX12_copy_51 rfl ?_
            obtain ⟨hv, H⟩ := H
            refine zt_iald kX12_copy_52 rfl (by decide) hv ?_
            refine zt_iconst (v := 2) kX12_copy_53 rfl ?_
            refine zt_icmp_ne kX12_copy_54 (fun c => ?_) (fun c => ?_)
            · replace H := H.1 c
              refine zt_bipush (v := (-12)) kX12_copy_72 rfl ?_
              exact zt_iret kX12_copy_74 rfl H
            · replace H := H.2 c
              refine zt_aload_n kX12_copy_57 rfl ?_
              refine zt_get (v := zr 41 0) kX12_copy_58 fRX12_44 rfl (by decide) rfl ?_
              refine zt_iload_n kX12_copy_61 rfl ?_
              obtain ⟨hv, H⟩ := H
              refine zt_iald kX12_copy_62 rfl (by decide) hv ?_
              refine zt_aload_n kX12_copy_63 rfl ?_
              refine zt_get (v := zr 41 0) kX12_copy_64 fRX12_44 rfl (by decide) rfl ?_
              refine zt_iload_n kX12_copy_67 rfl ?_
              obtain ⟨hv, H⟩ := H
              refine zt_iald kX12_copy_68 rfl (by decide) hv ?_
              refine zt_icmp_eq kX12_copy_69 (fun c => ?_) (fun c => ?_)
              · replace H := H.1 c
                refine zt_iload kX12_copy_75 rfl ?_
                refine zt_if_lt kX12_copy_77 (fun c => ?_) (fun c => ?_)
                · replace H := H.1 c
                  refine zt_bipush (v := (-13)) kX12_copy_116 rfl ?_
                  exact zt_iret kX12_copy_118 rfl H
                · replace H := H.2 c
                  refine zt_iload_n kX12_copy_80 rfl ?_
                  refine zt_if_lt kX12_copy_81 (fun c => ?_) (fun c => ?_)
                  · replace H := H.1 c
                    refine zt_bipush (v := (-13)) kX12_copy_116 rfl ?_
                    exact zt_iret kX12_copy_118 rfl H
                  · replace H := H.2 c
                    refine zt_iload kX12_copy_84 rfl ?_
                    refine zt_if_lt kX12_copy_86 (fun c => ?_) (fun c => ?_)
                    · replace H := H.1 c
                      refine zt_bipush (v := (-13)) kX12_copy_116 rfl ?_
                      exact zt_iret kX12_copy_118 rfl H
                    · replace H := H.2 c
                      refine zt_iload kX12_copy_89 rfl ?_
                      refine zt_aload_n kX12_copy_91 rfl ?_
                      refine zt_get (v := zr 42 0) kX12_copy_92 fRX12_47 rfl (by decide) rfl ?_
                      refine zt_iload_n kX12_copy_95 rfl ?_
                      obtain ⟨hv, H⟩ := H
                      refine zt_iald kX12_copy_96 rfl (by decide) hv ?_
                      refine zt_iload_n kX12_copy_97 rfl ?_
                      refine zt_isub kX12_copy_98 ?_
                      refine zt_icmp_gt kX12_copy_99 (fun c => ?_) (fun c => ?_)
                      · replace H := H.1 c
                        refine zt_bipush (v := (-13)) kX12_copy_116 rfl ?_
                        exact zt_iret kX12_copy_118 rfl H
                      · replace H := H.2 c
                        refine zt_iload kX12_copy_102 rfl ?_
                        refine zt_aload_n kX12_copy_104 rfl ?_
                        refine zt_get (v := zr 42 0) kX12_copy_105 fRX12_47 rfl (by decide) rfl ?_
                        refine zt_iload_n kX12_copy_108 rfl ?_
                        obtain ⟨hv, H⟩ := H
                        refine zt_iald kX12_copy_109 rfl (by decide) hv ?_
                        refine zt_iload kX12_copy_110 rfl ?_
                        refine zt_isub kX12_copy_112 ?_
                        refine zt_icmp_le kX12_copy_113 (fun c => ?_) (fun c => ?_)
                        · replace H := H.1 c
                          refine zt_iconst (v := 0) kX12_copy_119 rfl ?_
                          refine zt_istore (L' := [zr 5 0, zi x1, zi x2, zi x3, zi x4, zi x5, zi 0, zu]) kX12_copy_120 (by decide) rfl ?_
                          exact H
                        · replace H := H.2 c
                          refine zt_bipush (v := (-13)) kX12_copy_116 rfl ?_
                          exact zt_iret kX12_copy_118 rfl H
              · replace H := H.2 c
                refine zt_bipush (v := (-12)) kX12_copy_72 rfl ?_
                exact zt_iret kX12_copy_74 rfl H
        · replace H := H.2 c
          refine zt_bipush (v := (-11)) kX12_copy_34 rfl ?_
          exact zt_iret kX12_copy_36 rfl H
    · replace H := H.2 c
      refine zt_iconst (v := (-1)) kX12_copy_14 rfl ?_
      exact zt_iret kX12_copy_15 rfl H

set_option maxRecDepth 10000 in
theorem wX12_copy_122 {G : ZG} {d : Nat} {h : ZH} {Q : Option ZV → ZH → Prop} {x1 : Int32} {x2 : Int32} {x3 : Int32} {x4 : Int32} {x5 : Int32} {x6 : Int32} 
  (H : (x5 ≤ x6 → Q (some (zi x5)) h) ∧ (¬ x5 ≤ x6 → (x2 ≤ x4 → vp_in (((100 * x1) + x2) + ((x5 - 1) - x6)) 800 ∧ vp_in (((100 * x3) + x4) + ((x5 - 1) - x6)) 800 ∧ (∀ h1 : ZH, h1 = zs1 h 43 0 (((100 * x3) + x4) + ((x5 - 1) - x6)).toNatClampNeg (h.1 43 0 (((100 * x1) + x2) + ((x5 - 1) - x6)).toNatClampNeg) → zT G (d + 3) mX12_copy 122 [zr 5 0, zi x1, zi x2, zi x3, zi x4, zi x5, zi (x6 + 1), zu] [] h1 Q)) ∧ (¬ x2 ≤ x4 → vp_in (((100 * x1) + x2) + x6) 800 ∧ vp_in (((100 * x3) + x4) + x6) 800 ∧ (∀ h2 : ZH, h2 = zs1 h 43 0 (((100 * x3) + x4) + x6).toNatClampNeg (h.1 43 0 (((100 * x1) + x2) + x6).toNatClampNeg) → zT G (d + 3) mX12_copy 122 [zr 5 0, zi x1, zi x2, zi x3, zi x4, zi x5, zi (x6 + 1), zu] [] h2 Q)))) :
  zT G (d + 3) mX12_copy 122 [zr 5 0, zi x1, zi x2, zi x3, zi x4, zi x5, zi x6, zu] [] h Q := by
  refine zt_iload kX12_copy_122 rfl ?_
  refine zt_iload kX12_copy_124 rfl ?_
  refine zt_icmp_ge kX12_copy_126 (fun c => ?_) (fun c => ?_)
  · replace H := H.1 c
    refine zt_iload kX12_copy_184 rfl ?_
    exact zt_iret kX12_copy_186 rfl H
  · replace H := H.2 c
    refine zt_iload_n kX12_copy_129 rfl ?_
    refine zt_iload kX12_copy_130 rfl ?_
    refine zt_icmp_le kX12_copy_132 (fun c => ?_) (fun c => ?_)
    · replace H := H.1 c
      refine zt_iload kX12_copy_140 rfl ?_
      refine zt_iconst (v := 1) kX12_copy_142 rfl ?_
      refine zt_isub kX12_copy_143 ?_
      refine zt_iload kX12_copy_144 rfl ?_
      refine zt_isub kX12_copy_146 ?_
      refine zt_istore (L' := [zr 5 0, zi x1, zi x2, zi x3, zi x4, zi x5, zi x6, zi ((x5 - 1) - x6)]) kX12_copy_147 (by decide) rfl ?_
      refine zt_aload_n kX12_copy_149 rfl ?_
      refine zt_get (v := zr 43 0) kX12_copy_150 fRX12_50 rfl (by decide) rfl ?_
      refine zt_bipush (v := 100) kX12_copy_153 rfl ?_
      refine zt_iload_n kX12_copy_155 rfl ?_
      refine zt_imul kX12_copy_156 ?_
      refine zt_iload kX12_copy_157 rfl ?_
      refine zt_iadd kX12_copy_159 ?_
      refine zt_iload kX12_copy_160 rfl ?_
      refine zt_iadd kX12_copy_162 ?_
      refine zt_aload_n kX12_copy_163 rfl ?_
      refine zt_get (v := zr 43 0) kX12_copy_164 fRX12_50 rfl (by decide) rfl ?_
      refine zt_bipush (v := 100) kX12_copy_167 rfl ?_
      refine zt_iload_n kX12_copy_169 rfl ?_
      refine zt_imul kX12_copy_170 ?_
      refine zt_iload_n kX12_copy_171 rfl ?_
      refine zt_iadd kX12_copy_172 ?_
      refine zt_iload kX12_copy_173 rfl ?_
      refine zt_iadd kX12_copy_175 ?_
      obtain ⟨hv, H⟩ := H
      refine zt_iald kX12_copy_176 rfl (by decide) hv ?_
      obtain ⟨hv, H⟩ := H
      refine zt_iast kX12_copy_177 rfl (by decide) hv ?_
      refine zt_heap (fun h1 eh1 => ?_)
      replace H := H h1 eh1
      refine zt_iinc (v := (x6 + 1)) (L' := [zr 5 0, zi x1, zi x2, zi x3, zi x4, zi x5, zi (x6 + 1), zi ((x5 - 1) - x6)]) kX12_copy_178 rfl rfl (by decide) rfl ?_
      refine zt_goto kX12_copy_181 ?_
      exact zt_sub [zr 5 0, zi x1, zi x2, zi x3, zi x4, zi x5, zi (x6 + 1), zu] ⟨rfl, ⟨rfl, ⟨rfl, ⟨rfl, ⟨rfl, ⟨rfl, ⟨rfl, trivial⟩⟩⟩⟩⟩⟩⟩ H
    · replace H := H.2 c
      refine zt_iload kX12_copy_135 rfl ?_
      refine zt_goto kX12_copy_137 ?_
      refine zt_istore (L' := [zr 5 0, zi x1, zi x2, zi x3, zi x4, zi x5, zi x6, zi x6]) kX12_copy_147 (by decide) rfl ?_
      refine zt_aload_n kX12_copy_149 rfl ?_
      refine zt_get (v := zr 43 0) kX12_copy_150 fRX12_50 rfl (by decide) rfl ?_
      refine zt_bipush (v := 100) kX12_copy_153 rfl ?_
      refine zt_iload_n kX12_copy_155 rfl ?_
      refine zt_imul kX12_copy_156 ?_
      refine zt_iload kX12_copy_157 rfl ?_
      refine zt_iadd kX12_copy_159 ?_
      refine zt_iload kX12_copy_160 rfl ?_
      refine zt_iadd kX12_copy_162 ?_
      refine zt_aload_n kX12_copy_163 rfl ?_
      refine zt_get (v := zr 43 0) kX12_copy_164 fRX12_50 rfl (by decide) rfl ?_
      refine zt_bipush (v := 100) kX12_copy_167 rfl ?_
      refine zt_iload_n kX12_copy_169 rfl ?_
      refine zt_imul kX12_copy_170 ?_
      refine zt_iload_n kX12_copy_171 rfl ?_
      refine zt_iadd kX12_copy_172 ?_
      refine zt_iload kX12_copy_173 rfl ?_
      refine zt_iadd kX12_copy_175 ?_
      obtain ⟨hv, H⟩ := H
      refine zt_iald kX12_copy_176 rfl (by decide) hv ?_
      obtain ⟨hv, H⟩ := H
      refine zt_iast kX12_copy_177 rfl (by decide) hv ?_
      refine zt_heap (fun h2 eh2 => ?_)
      replace H := H h2 eh2
      refine zt_iinc (v := (x6 + 1)) (L' := [zr 5 0, zi x1, zi x2, zi x3, zi x4, zi x5, zi (x6 + 1), zi x6]) kX12_copy_178 rfl rfl (by decide) rfl ?_
      refine zt_goto kX12_copy_181 ?_
      exact zt_sub [zr 5 0, zi x1, zi x2, zi x3, zi x4, zi x5, zi (x6 + 1), zu] ⟨rfl, ⟨rfl, ⟨rfl, ⟨rfl, ⟨rfl, ⟨rfl, ⟨rfl, trivial⟩⟩⟩⟩⟩⟩⟩ H

theorem kX12_element_0 : zD cX12_element 0 1 (.aload_n 0) 1 := by decide +kernel
theorem kX12_element_1 : zD cX12_element 1 2 (.iload_n 1) 1 := by decide +kernel
theorem kX12_element_2 : zD cX12_element 2 5 (.invokestatic 241) 3 := by decide +kernel
theorem kX12_element_5 : zB cX12_element 5 8 12 (.ifCond .ne 7) 7 := by decide +kernel
theorem kX12_element_8 : zD cX12_element 8 9 (.iconst 1) 1 := by decide +kernel
theorem kX12_element_9 : zB cX12_element 9 12 43 (.goto 34) 34 := by decide +kernel
theorem kX12_element_12 : zD cX12_element 12 13 (.aload_n 0) 1 := by decide +kernel
theorem kX12_element_13 : zD cX12_element 13 16 (.getfield 35) 3 := by decide +kernel
theorem kX12_element_16 : zD cX12_element 16 17 (.iload_n 1) 1 := by decide +kernel
theorem kX12_element_17 : zD cX12_element 17 18 (.iaload) 1 := by decide +kernel
theorem kX12_element_18 : zD cX12_element 18 19 (.iconst 2) 1 := by decide +kernel
theorem kX12_element_19 : zB cX12_element 19 22 38 (.if_icmp .ne 19) 19 := by decide +kernel
theorem kX12_element_22 : zD cX12_element 22 23 (.iload_n 2) 1 := by decide +kernel
theorem kX12_element_23 : zD cX12_element 23 24 (.iconst 0) 1 := by decide +kernel
theorem kX12_element_24 : zD cX12_element 24 25 (.aload_n 0) 1 := by decide +kernel
theorem kX12_element_25 : zD cX12_element 25 28 (.getfield 47) 3 := by decide +kernel
theorem kX12_element_28 : zD cX12_element 28 29 (.iload_n 1) 1 := by decide +kernel
theorem kX12_element_29 : zD cX12_element 29 30 (.iaload) 1 := by decide +kernel
theorem kX12_element_30 : zD cX12_element 30 31 (.iconst 1) 1 := by decide +kernel
theorem kX12_element_31 : zD cX12_element 31 32 (.isub) 1 := by decide +kernel
theorem kX12_element_32 : zD cX12_element 32 35 (.invokestatic 53) 3 := by decide +kernel
theorem kX12_element_35 : zB cX12_element 35 38 42 (.ifCond .ne 7) 7 := by decide +kernel
theorem kX12_element_38 : zD cX12_element 38 39 (.iconst 2) 1 := by decide +kernel
theorem kX12_element_39 : zB cX12_element 39 42 43 (.goto 4) 4 := by decide +kernel
theorem kX12_element_42 : zD cX12_element 42 43 (.iconst 0) 1 := by decide +kernel
theorem kX12_element_43 : zD cX12_element 43 46 (.putfield 238) 3 := by decide +kernel
theorem kX12_element_46 : zD cX12_element 46 47 (.aload_n 0) 1 := by decide +kernel
theorem kX12_element_47 : zD cX12_element 47 50 (.getfield 238) 3 := by decide +kernel
theorem kX12_element_50 : zB cX12_element 50 53 68 (.ifCond .ne 18) 18 := by decide +kernel
theorem kX12_element_53 : zD cX12_element 53 54 (.aload_n 0) 1 := by decide +kernel
theorem kX12_element_54 : zD cX12_element 54 57 (.getfield 50) 3 := by decide +kernel
theorem kX12_element_57 : zD cX12_element 57 59 (.bipush 100) 2 := by decide +kernel
theorem kX12_element_59 : zD cX12_element 59 60 (.iload_n 1) 1 := by decide +kernel
theorem kX12_element_60 : zD cX12_element 60 61 (.imul) 1 := by decide +kernel
theorem kX12_element_61 : zD cX12_element 61 62 (.iload_n 2) 1 := by decide +kernel
theorem kX12_element_62 : zD cX12_element 62 63 (.iadd) 1 := by decide +kernel
theorem kX12_element_63 : zD cX12_element 63 64 (.iaload) 1 := by decide +kernel
theorem kX12_element_64 : zD cX12_element 64 65 (.i2l) 1 := by decide +kernel
theorem kX12_element_65 : zB cX12_element 65 68 69 (.goto 4) 4 := by decide +kernel
theorem kX12_element_68 : zD cX12_element 68 69 (.lconst 0) 1 := by decide +kernel
theorem kX12_element_69 : zD cX12_element 69 70 (.lreturn) 1 := by decide +kernel
set_option maxRecDepth 10000 in
theorem wX12_element_0 {G : ZG} {d : Nat} {h : ZH} {Q : Option ZV → ZH → Prop} {x1 : Int32} {x2 : Int32} 
  (H : ((0 ≤ x1 ∧ x1 ≤ 7) → vp_in x1 8 ∧ (¬ (h.1 38 0 x1.toNatClampNeg) = 2 → ∀ h1 : ZH, h1 = zs1 h 5 0 23 2 → (¬ (h1.1 5 0 23) = 0 → Q (some (zl 0)) h1) ∧ ((h1.1 5 0 23) = 0 → vp_in ((100 * x1) + x2) 800 ∧ Q (some (zl ((h1.1 43 0 ((100 * x1) + x2).toNatClampNeg)).toInt64)) h1)) ∧ ((h.1 38 0 x1.toNatClampNeg) = 2 → vp_in x1 8 ∧ (((0 : Int32) ≤ x2 ∧ x2 ≤ ((h.1 42 0 x1.toNatClampNeg) - 1)) → ∀ h2 : ZH, h2 = zs1 h 5 0 23 0 → (¬ (h2.1 5 0 23) = 0 → Q (some (zl 0)) h2) ∧ ((h2.1 5 0 23) = 0 → vp_in ((100 * x1) + x2) 800 ∧ Q (some (zl ((h2.1 43 0 ((100 * x1) + x2).toNatClampNeg)).toInt64)) h2)) ∧ (¬ ((0 : Int32) ≤ x2 ∧ x2 ≤ ((h.1 42 0 x1.toNatClampNeg) - 1)) → ∀ h3 : ZH, h3 = zs1 h 5 0 23 2 → (¬ (h3.1 5 0 23) = 0 → Q (some (zl 0)) h3) ∧ ((h3.1 5 0 23) = 0 → vp_in ((100 * x1) + x2) 800 ∧ Q (some (zl ((h3.1 43 0 ((100 * x1) + x2).toNatClampNeg)).toInt64)) h3)))) ∧ (¬ (0 ≤ x1 ∧ x1 ≤ 7) → ∀ h4 : ZH, h4 = zs1 h 5 0 23 1 → (¬ (h4.1 5 0 23) = 0 → Q (some (zl 0)) h4) ∧ ((h4.1 5 0 23) = 0 → vp_in ((100 * x1) + x2) 800 ∧ Q (some (zl ((h4.1 43 0 ((100 * x1) + x2).toNatClampNeg)).toInt64)) h4))) :
  zT G (d + 3) mX12_element 0 [zr 5 0, zi x1, zi x2] [] h Q := by
  refine zt_aload_n kX12_element_0 rfl ?_
  refine zt_iload_n kX12_element_1 rfl ?_
  refine zt_cS (as := [zi x1]) kX12_element_2 sRX12_241 rfl (by simp) rfl (sX12_isShelf _  ) (fun r h0 hq => ?_)
  obtain ⟨rfl, hh⟩ := hq
  replace hh := hh.symm
  subst hh
  refine zt_ifb_ne kX12_element_5 (fun c => ?_) (fun c => ?_)
  · replace H := H.1 c
    refine zt_aload_n kX12_element_12 rfl ?_
    refine zt_get (v := zr 38 0) kX12_element_13 fRX12_35 rfl (by decide) rfl ?_
    refine zt_iload_n kX12_element_16 rfl ?_
    obtain ⟨hv, H⟩ := H
    refine zt_iald kX12_element_17 rfl (by decide) hv ?_
    refine zt_iconst (v := 2) kX12_element_18 rfl ?_
    refine zt_icmp_ne kX12_element_19 (fun c => ?_) (fun c => ?_)
    · replace H := H.1 c
      refine zt_iconst (v := 2) kX12_element_38 rfl ?_
      refine zt_goto kX12_element_39 ?_
      refine zt_put kX12_element_43 fRX12_238 pRX12_23 rfl (by decide) rfl ?_
      refine zt_heap (fun h1 eh1 => ?_)
      replace H := H h1 eh1
      refine zt_aload_n kX12_element_46 rfl ?_
      refine zt_get (v := zi (h1.1 5 0 23)) kX12_element_47 fRX12_238 rfl (by decide) rfl ?_
      refine zt_if_ne kX12_element_50 (fun c => ?_) (fun c => ?_)
      · replace H := H.1 c
        refine zt_lconst (v := 0) kX12_element_68 rfl ?_
        exact zt_lret kX12_element_69 rfl H
      · replace H := H.2 c
        refine zt_aload_n kX12_element_53 rfl ?_
        refine zt_get (v := zr 43 0) kX12_element_54 fRX12_50 rfl (by decide) rfl ?_
        refine zt_bipush (v := 100) kX12_element_57 rfl ?_
        refine zt_iload_n kX12_element_59 rfl ?_
        refine zt_imul kX12_element_60 ?_
        refine zt_iload_n kX12_element_61 rfl ?_
        refine zt_iadd kX12_element_62 ?_
        obtain ⟨hv, H⟩ := H
        refine zt_iald kX12_element_63 rfl (by decide) hv ?_
        refine zt_i2l kX12_element_64 ?_
        refine zt_goto kX12_element_65 ?_
        exact zt_lret kX12_element_69 rfl H
    · replace H := H.2 c
      refine zt_iload_n kX12_element_22 rfl ?_
      refine zt_iconst (v := 0) kX12_element_23 rfl ?_
      refine zt_aload_n kX12_element_24 rfl ?_
      refine zt_get (v := zr 42 0) kX12_element_25 fRX12_47 rfl (by decide) rfl ?_
      refine zt_iload_n kX12_element_28 rfl ?_
      obtain ⟨hv, H⟩ := H
      refine zt_iald kX12_element_29 rfl (by decide) hv ?_
      refine zt_iconst (v := 1) kX12_element_30 rfl ?_
      refine zt_isub kX12_element_31 ?_
      refine zt_cS (as := [zi x2, zi 0, zi ((h.1 42 0 x1.toNatClampNeg) - 1)]) kX12_element_32 sRX12_53 rfl (by simp) rfl (sX12_isIn _  ) (fun r h0 hq => ?_)
      obtain ⟨rfl, hh⟩ := hq
      replace hh := hh.symm
      subst hh
      refine zt_ifb_ne kX12_element_35 (fun c => ?_) (fun c => ?_)
      · replace H := H.1 c
        refine zt_iconst (v := 0) kX12_element_42 rfl ?_
        refine zt_put kX12_element_43 fRX12_238 pRX12_23 rfl (by decide) rfl ?_
        refine zt_heap (fun h2 eh2 => ?_)
        replace H := H h2 eh2
        refine zt_aload_n kX12_element_46 rfl ?_
        refine zt_get (v := zi (h2.1 5 0 23)) kX12_element_47 fRX12_238 rfl (by decide) rfl ?_
        refine zt_if_ne kX12_element_50 (fun c => ?_) (fun c => ?_)
        · replace H := H.1 c
          refine zt_lconst (v := 0) kX12_element_68 rfl ?_
          exact zt_lret kX12_element_69 rfl H
        · replace H := H.2 c
          refine zt_aload_n kX12_element_53 rfl ?_
          refine zt_get (v := zr 43 0) kX12_element_54 fRX12_50 rfl (by decide) rfl ?_
          refine zt_bipush (v := 100) kX12_element_57 rfl ?_
          refine zt_iload_n kX12_element_59 rfl ?_
          refine zt_imul kX12_element_60 ?_
          refine zt_iload_n kX12_element_61 rfl ?_
          refine zt_iadd kX12_element_62 ?_
          obtain ⟨hv, H⟩ := H
          refine zt_iald kX12_element_63 rfl (by decide) hv ?_
          refine zt_i2l kX12_element_64 ?_
          refine zt_goto kX12_element_65 ?_
          exact zt_lret kX12_element_69 rfl H
      · replace H := H.2 c
        refine zt_iconst (v := 2) kX12_element_38 rfl ?_
        refine zt_goto kX12_element_39 ?_
        refine zt_put kX12_element_43 fRX12_238 pRX12_23 rfl (by decide) rfl ?_
        refine zt_heap (fun h3 eh3 => ?_)
        replace H := H h3 eh3
        refine zt_aload_n kX12_element_46 rfl ?_
        refine zt_get (v := zi (h3.1 5 0 23)) kX12_element_47 fRX12_238 rfl (by decide) rfl ?_
        refine zt_if_ne kX12_element_50 (fun c => ?_) (fun c => ?_)
        · replace H := H.1 c
          refine zt_lconst (v := 0) kX12_element_68 rfl ?_
          exact zt_lret kX12_element_69 rfl H
        · replace H := H.2 c
          refine zt_aload_n kX12_element_53 rfl ?_
          refine zt_get (v := zr 43 0) kX12_element_54 fRX12_50 rfl (by decide) rfl ?_
          refine zt_bipush (v := 100) kX12_element_57 rfl ?_
          refine zt_iload_n kX12_element_59 rfl ?_
          refine zt_imul kX12_element_60 ?_
          refine zt_iload_n kX12_element_61 rfl ?_
          refine zt_iadd kX12_element_62 ?_
          obtain ⟨hv, H⟩ := H
          refine zt_iald kX12_element_63 rfl (by decide) hv ?_
          refine zt_i2l kX12_element_64 ?_
          refine zt_goto kX12_element_65 ?_
          exact zt_lret kX12_element_69 rfl H
  · replace H := H.2 c
    refine zt_iconst (v := 1) kX12_element_8 rfl ?_
    refine zt_goto kX12_element_9 ?_
    refine zt_put kX12_element_43 fRX12_238 pRX12_23 rfl (by decide) rfl ?_
    refine zt_heap (fun h4 eh4 => ?_)
    replace H := H h4 eh4
    refine zt_aload_n kX12_element_46 rfl ?_
    refine zt_get (v := zi (h4.1 5 0 23)) kX12_element_47 fRX12_238 rfl (by decide) rfl ?_
    refine zt_if_ne kX12_element_50 (fun c => ?_) (fun c => ?_)
    · replace H := H.1 c
      refine zt_lconst (v := 0) kX12_element_68 rfl ?_
      exact zt_lret kX12_element_69 rfl H
    · replace H := H.2 c
      refine zt_aload_n kX12_element_53 rfl ?_
      refine zt_get (v := zr 43 0) kX12_element_54 fRX12_50 rfl (by decide) rfl ?_
      refine zt_bipush (v := 100) kX12_element_57 rfl ?_
      refine zt_iload_n kX12_element_59 rfl ?_
      refine zt_imul kX12_element_60 ?_
      refine zt_iload_n kX12_element_61 rfl ?_
      refine zt_iadd kX12_element_62 ?_
      obtain ⟨hv, H⟩ := H
      refine zt_iald kX12_element_63 rfl (by decide) hv ?_
      refine zt_i2l kX12_element_64 ?_
      refine zt_goto kX12_element_65 ?_
      exact zt_lret kX12_element_69 rfl H

