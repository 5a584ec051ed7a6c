/-! ===== the bytecode of these methods, walked (by program): X4_heaviestLaden X4_allLoads X4_weightOf X4_columnWeight X4_leftOverRight X4_heaviestColumn X4_highestRow X4_inHighestRow X11_stone X11_mostLoad X11_more X11_lean X11_highest X11_count X11_cost X12_stone X12_mostLoad X12_more X12_columnOf X12_lean X12_highest X12_count X12_cost ===== -/
theorem kX4_heaviestLaden_0 : zD cX4_heaviestLaden 0 1 (.aload_n 0) 1 := by decide +kernel
theorem kX4_heaviestLaden_1 : zD cX4_heaviestLaden 1 4 (.invokevirtual 96) 3 := by decide +kernel
theorem kX4_heaviestLaden_4 : zD cX4_heaviestLaden 4 6 (.bipush (-4)) 2 := by decide +kernel
theorem kX4_heaviestLaden_6 : zD cX4_heaviestLaden 6 7 (.istore_n 1) 1 := by decide +kernel
theorem kX4_heaviestLaden_7 : zD cX4_heaviestLaden 7 8 (.iconst (-1)) 1 := by decide +kernel
theorem kX4_heaviestLaden_8 : zD cX4_heaviestLaden 8 9 (.istore_n 2) 1 := by decide +kernel
theorem kX4_heaviestLaden_9 : zD cX4_heaviestLaden 9 10 (.iconst 0) 1 := by decide +kernel
theorem kX4_heaviestLaden_10 : zD cX4_heaviestLaden 10 11 (.istore_n 3) 1 := by decide +kernel
theorem kX4_heaviestLaden_11 : zD cX4_heaviestLaden 11 12 (.iload_n 3) 1 := by decide +kernel
theorem kX4_heaviestLaden_12 : zD cX4_heaviestLaden 12 14 (.bipush 12) 2 := by decide +kernel
theorem kX4_heaviestLaden_14 : zB cX4_heaviestLaden 14 17 50 (.if_icmp .ge 36) 36 := by decide +kernel
theorem kX4_heaviestLaden_17 : zD cX4_heaviestLaden 17 18 (.aload_n 0) 1 := by decide +kernel
theorem kX4_heaviestLaden_18 : zD cX4_heaviestLaden 18 19 (.iload_n 3) 1 := by decide +kernel
theorem kX4_heaviestLaden_19 : zD cX4_heaviestLaden 19 22 (.invokevirtual 99) 3 := by decide +kernel
theorem kX4_heaviestLaden_22 : zB cX4_heaviestLaden 22 25 44 (.ifCond .eq 22) 22 := by decide +kernel
theorem kX4_heaviestLaden_25 : zD cX4_heaviestLaden 25 26 (.aload_n 0) 1 := by decide +kernel
theorem kX4_heaviestLaden_26 : zD cX4_heaviestLaden 26 29 (.getfield 27) 3 := by decide +kernel
theorem kX4_heaviestLaden_29 : zD cX4_heaviestLaden 29 30 (.iload_n 3) 1 := by decide +kernel
theorem kX4_heaviestLaden_30 : zD cX4_heaviestLaden 30 31 (.iaload) 1 := by decide +kernel
theorem kX4_heaviestLaden_31 : zD cX4_heaviestLaden 31 32 (.iload_n 2) 1 := by decide +kernel
theorem kX4_heaviestLaden_32 : zB cX4_heaviestLaden 32 35 44 (.if_icmp .le 12) 12 := by decide +kernel
theorem kX4_heaviestLaden_35 : zD cX4_heaviestLaden 35 36 (.aload_n 0) 1 := by decide +kernel
theorem kX4_heaviestLaden_36 : zD cX4_heaviestLaden 36 39 (.getfield 27) 3 := by decide +kernel
theorem kX4_heaviestLaden_39 : zD cX4_heaviestLaden 39 40 (.iload_n 3) 1 := by decide +kernel
theorem kX4_heaviestLaden_40 : zD cX4_heaviestLaden 40 41 (.iaload) 1 := by decide +kernel
theorem kX4_heaviestLaden_41 : zD cX4_heaviestLaden 41 42 (.istore_n 2) 1 := by decide +kernel
theorem kX4_heaviestLaden_42 : zD cX4_heaviestLaden 42 43 (.iload_n 3) 1 := by decide +kernel
theorem kX4_heaviestLaden_43 : zD cX4_heaviestLaden 43 44 (.istore_n 1) 1 := by decide +kernel
theorem kX4_heaviestLaden_44 : zD cX4_heaviestLaden 44 47 (.iinc 3 1) 3 := by decide +kernel
theorem kX4_heaviestLaden_47 : zB cX4_heaviestLaden 47 50 11 (.goto (-36)) (-36) := by decide +kernel
theorem kX4_heaviestLaden_50 : zD cX4_heaviestLaden 50 51 (.iload_n 1) 1 := by decide +kernel
theorem kX4_heaviestLaden_51 : zD cX4_heaviestLaden 51 52 (.ireturn) 1 := by decide +kernel
set_option maxRecDepth 10000 in
theorem wX4_heaviestLaden_0 {G : ZG} {d : Nat} {h : ZH} {Q : Option ZV → ZH → Prop} {i0 : Nat} (hi0 : i0 < zcnt 2)
  (H : zC G (d + 4) mX4_weighAll [zr 2 i0] h (fun r2 h1 => r2 = none ∧ zT G (d + 5) mX4_heaviestLaden 11 [zr 2 i0, zi (-4), zi (-1), zi 0] [] h1 Q)) :
  zT G (d + 5) mX4_heaviestLaden 0 [zr 2 i0, zu, zu, zu] [] h Q := by
  refine zt_aload_n kX4_heaviestLaden_0 rfl ?_
  refine zt_cV (as := []) kX4_heaviestLaden_1 sRX4_96 rfl hi0 rfl (by simp) rfl H (fun r2 h1 H => ?_)
  obtain ⟨rfl, H⟩ := H
  refine zt_bipush (v := (-4)) kX4_heaviestLaden_4 rfl ?_
  refine zt_istore_n (L' := [zr 2 i0, zi (-4), zu, zu]) kX4_heaviestLaden_6 (by decide) rfl ?_
  refine zt_iconst (v := (-1)) kX4_heaviestLaden_7 rfl ?_
  refine zt_istore_n (L' := [zr 2 i0, zi (-4), zi (-1), zu]) kX4_heaviestLaden_8 (by decide) rfl ?_
  refine zt_iconst (v := 0) kX4_heaviestLaden_9 rfl ?_
  refine zt_istore_n (L' := [zr 2 i0, zi (-4), zi (-1), zi 0]) kX4_heaviestLaden_10 (by decide) rfl ?_
  exact H

set_option maxRecDepth 10000 in
theorem wX4_heaviestLaden_11 {G : ZG} {d : Nat} {h : ZH} {Q : Option ZV → ZH → Prop} {i0 : Nat} {x1 : Int32} {x2 : Int32} {x3 : Int32} (hi0 : i0 < zcnt 2)
  (H : (12 ≤ x3 → Q (some (zi x1)) h) ∧ (¬ 12 ≤ x3 → (¬ (hasI (h.1 2 i0 6) x3) → zT G (d + 5) mX4_heaviestLaden 11 [zr 2 i0, zi x1, zi x2, zi (x3 + 1)] [] h Q) ∧ ((hasI (h.1 2 i0 6) x3) → vp_in x3 12 ∧ ((h.1 15 i0 x3.toNatClampNeg) ≤ x2 → zT G (d + 5) mX4_heaviestLaden 11 [zr 2 i0, zi x1, zi x2, zi (x3 + 1)] [] h Q) ∧ (¬ (h.1 15 i0 x3.toNatClampNeg) ≤ x2 → vp_in x3 12 ∧ zT G (d + 5) mX4_heaviestLaden 11 [zr 2 i0, zi x3, zi (h.1 15 i0 x3.toNatClampNeg), zi (x3 + 1)] [] h Q)))) :
  zT G (d + 5) mX4_heaviestLaden 11 [zr 2 i0, zi x1, zi x2, zi x3] [] h Q := by
  refine zt_iload_n kX4_heaviestLaden_11 rfl ?_
  refine zt_bipush (v := 12) kX4_heaviestLaden_12 rfl ?_
  refine zt_icmp_ge kX4_heaviestLaden_14 (fun c => ?_) (fun c => ?_)
  · replace H := H.1 c
    refine zt_iload_n kX4_heaviestLaden_50 rfl ?_
    exact zt_iret kX4_heaviestLaden_51 rfl H
  · replace H := H.2 c
    refine zt_aload_n kX4_heaviestLaden_17 rfl ?_
    refine zt_iload_n kX4_heaviestLaden_18 rfl ?_
    refine zt_cV (as := [zi x3]) kX4_heaviestLaden_19 sRX4_99 rfl hi0 rfl (by simp) rfl (sX4_holds _ hi0 ) (fun r h0 hq => ?_)
    obtain ⟨rfl, hh⟩ := hq
    replace hh := hh.symm
    subst hh
    refine zt_ifb_eq kX4_heaviestLaden_22 (fun c => ?_) (fun c => ?_)
    · replace H := H.1 c
      refine zt_iinc (v := (x3 + 1)) (L' := [zr 2 i0, zi x1, zi x2, zi (x3 + 1)]) kX4_heaviestLaden_44 rfl rfl (by decide) rfl ?_
      refine zt_goto kX4_heaviestLaden_47 ?_
      exact H
    · replace H := H.2 c
      refine zt_aload_n kX4_heaviestLaden_25 rfl ?_
      refine zt_get (v := zr 15 i0) kX4_heaviestLaden_26 fRX4_27 rfl hi0 rfl ?_
      refine zt_iload_n kX4_heaviestLaden_29 rfl ?_
      obtain ⟨hv, H⟩ := H
      refine zt_iald kX4_heaviestLaden_30 rfl hi0 hv ?_
      refine zt_iload_n kX4_heaviestLaden_31 rfl ?_
      refine zt_icmp_le kX4_heaviestLaden_32 (fun c => ?_) (fun c => ?_)
      · replace H := H.1 c
        refine zt_iinc (v := (x3 + 1)) (L' := [zr 2 i0, zi x1, zi x2, zi (x3 + 1)]) kX4_heaviestLaden_44 rfl rfl (by decide) rfl ?_
        refine zt_goto kX4_heaviestLaden_47 ?_
        exact H
      · replace H := H.2 c
        refine zt_aload_n kX4_heaviestLaden_35 rfl ?_
        refine zt_get (v := zr 15 i0) kX4_heaviestLaden_36 fRX4_27 rfl hi0 rfl ?_
        refine zt_iload_n kX4_heaviestLaden_39 rfl ?_
        obtain ⟨hv, H⟩ := H
        refine zt_iald kX4_heaviestLaden_40 rfl hi0 hv ?_
        refine zt_istore_n (L' := [zr 2 i0, zi x1, zi (h.1 15 i0 x3.toNatClampNeg), zi x3]) kX4_heaviestLaden_41 (by decide) rfl ?_
        refine zt_iload_n kX4_heaviestLaden_42 rfl ?_
        refine zt_istore_n (L' := [zr 2 i0, zi x3, zi (h.1 15 i0 x3.toNatClampNeg), zi x3]) kX4_heaviestLaden_43 (by decide) rfl ?_
        refine zt_iinc (v := (x3 + 1)) (L' := [zr 2 i0, zi x3, zi (h.1 15 i0 x3.toNatClampNeg), zi (x3 + 1)]) kX4_heaviestLaden_44 rfl rfl (by decide) rfl ?_
        refine zt_goto kX4_heaviestLaden_47 ?_
        exact H

theorem kX4_allLoads_0 : zD cX4_allLoads 0 1 (.aload_n 0) 1 := by decide +kernel
theorem kX4_allLoads_1 : zD cX4_allLoads 1 4 (.invokevirtual 96) 3 := by decide +kernel
theorem kX4_allLoads_4 : zD cX4_allLoads 4 5 (.iconst 0) 1 := by decide +kernel
theorem kX4_allLoads_5 : zD cX4_allLoads 5 6 (.istore_n 1) 1 := by decide +kernel
theorem kX4_allLoads_6 : zD cX4_allLoads 6 7 (.iconst 0) 1 := by decide +kernel
theorem kX4_allLoads_7 : zD cX4_allLoads 7 8 (.istore_n 2) 1 := by decide +kernel
theorem kX4_allLoads_8 : zD cX4_allLoads 8 9 (.iload_n 2) 1 := by decide +kernel
theorem kX4_allLoads_9 : zD cX4_allLoads 9 11 (.bipush 12) 2 := by decide +kernel
theorem kX4_allLoads_11 : zB cX4_allLoads 11 14 37 (.if_icmp .ge 26) 26 := by decide +kernel
theorem kX4_allLoads_14 : zD cX4_allLoads 14 15 (.aload_n 0) 1 := by decide +kernel
theorem kX4_allLoads_15 : zD cX4_allLoads 15 16 (.iload_n 2) 1 := by decide +kernel
theorem kX4_allLoads_16 : zD cX4_allLoads 16 19 (.invokevirtual 99) 3 := by decide +kernel
theorem kX4_allLoads_19 : zB cX4_allLoads 19 22 31 (.ifCond .eq 12) 12 := by decide +kernel
theorem kX4_allLoads_22 : zD cX4_allLoads 22 23 (.iload_n 1) 1 := by decide +kernel
theorem kX4_allLoads_23 : zD cX4_allLoads 23 24 (.aload_n 0) 1 := by decide +kernel
theorem kX4_allLoads_24 : zD cX4_allLoads 24 27 (.getfield 27) 3 := by decide +kernel
theorem kX4_allLoads_27 : zD cX4_allLoads 27 28 (.iload_n 2) 1 := by decide +kernel
theorem kX4_allLoads_28 : zD cX4_allLoads 28 29 (.iaload) 1 := by decide +kernel
theorem kX4_allLoads_29 : zD cX4_allLoads 29 30 (.iadd) 1 := by decide +kernel
theorem kX4_allLoads_30 : zD cX4_allLoads 30 31 (.istore_n 1) 1 := by decide +kernel
theorem kX4_allLoads_31 : zD cX4_allLoads 31 34 (.iinc 2 1) 3 := by decide +kernel
theorem kX4_allLoads_34 : zB cX4_allLoads 34 37 8 (.goto (-26)) (-26) := by decide +kernel
theorem kX4_allLoads_37 : zD cX4_allLoads 37 38 (.iload_n 1) 1 := by decide +kernel
theorem kX4_allLoads_38 : zD cX4_allLoads 38 39 (.ireturn) 1 := by decide +kernel
set_option maxRecDepth 10000 in
theorem wX4_allLoads_0 {G : ZG} {d : Nat} {h : ZH} {Q : Option ZV → ZH → Prop} {i0 : Nat} (hi0 : i0 < zcnt 2)
  (H : zC G (d + 4) mX4_weighAll [zr 2 i0] h (fun r2 h1 => r2 = none ∧ zT G (d + 5) mX4_allLoads 8 [zr 2 i0, zi 0, zi 0] [] h1 Q)) :
  zT G (d + 5) mX4_allLoads 0 [zr 2 i0, zu, zu] [] h Q := by
  refine zt_aload_n kX4_allLoads_0 rfl ?_
  refine zt_cV (as := []) kX4_allLoads_1 sRX4_96 rfl hi0 rfl (by simp) rfl H (fun r2 h1 H => ?_)
  obtain ⟨rfl, H⟩ := H
  refine zt_iconst (v := 0) kX4_allLoads_4 rfl ?_
  refine zt_istore_n (L' := [zr 2 i0, zi 0, zu]) kX4_allLoads_5 (by decide) rfl ?_
  refine zt_iconst (v := 0) kX4_allLoads_6 rfl ?_
  refine zt_istore_n (L' := [zr 2 i0, zi 0, zi 0]) kX4_allLoads_7 (by decide) rfl ?_
  exact H

set_option maxRecDepth 10000 in
theorem wX4_allLoads_8 {G : ZG} {d : Nat} {h : ZH} {Q : Option ZV → ZH → Prop} {i0 : Nat} {x1 : Int32} {x2 : Int32} (hi0 : i0 < zcnt 2)
  (H : (12 ≤ x2 → Q (some (zi x1)) h) ∧ (¬ 12 ≤ x2 → (¬ (hasI (h.1 2 i0 6) x2) → zT G (d + 5) mX4_allLoads 8 [zr 2 i0, zi x1, zi (x2 + 1)] [] h Q) ∧ ((hasI (h.1 2 i0 6) x2) → vp_in x2 12 ∧ zT G (d + 5) mX4_allLoads 8 [zr 2 i0, zi (x1 + (h.1 15 i0 x2.toNatClampNeg)), zi (x2 + 1)] [] h Q))) :
  zT G (d + 5) mX4_allLoads 8 [zr 2 i0, zi x1, zi x2] [] h Q := by
  refine zt_iload_n kX4_allLoads_8 rfl ?_
  refine zt_bipush (v := 12) kX4_allLoads_9 rfl ?_
  refine zt_icmp_ge kX4_allLoads_11 (fun c => ?_) (fun c => ?_)
  · replace H := H.1 c
    refine zt_iload_n kX4_allLoads_37 rfl ?_
    exact zt_iret kX4_allLoads_38 rfl H
  · replace H := H.2 c
    refine zt_aload_n kX4_allLoads_14 rfl ?_
    refine zt_iload_n kX4_allLoads_15 rfl ?_
    refine zt_cV (as := [zi x2]) kX4_allLoads_16 sRX4_99 rfl hi0 rfl (by simp) rfl (sX4_holds _ hi0 ) (fun r h0 hq => ?_)
    obtain ⟨rfl, hh⟩ := hq
    replace hh := hh.symm
    subst hh
    refine zt_ifb_eq kX4_allLoads_19 (fun c => ?_) (fun c => ?_)
    · replace H := H.1 c
      refine zt_iinc (v := (x2 + 1)) (L' := [zr 2 i0, zi x1, zi (x2 + 1)]) kX4_allLoads_31 rfl rfl (by decide) rfl ?_
      refine zt_goto kX4_allLoads_34 ?_
      exact H
    · replace H := H.2 c
      refine zt_iload_n kX4_allLoads_22 rfl ?_
      refine zt_aload_n kX4_allLoads_23 rfl ?_
      refine zt_get (v := zr 15 i0) kX4_allLoads_24 fRX4_27 rfl hi0 rfl ?_
      refine zt_iload_n kX4_allLoads_27 rfl ?_
      obtain ⟨hv, H⟩ := H
      refine zt_iald kX4_allLoads_28 rfl hi0 hv ?_
      refine zt_iadd kX4_allLoads_29 ?_
      refine zt_istore_n (L' := [zr 2 i0, zi (x1 + (h.1 15 i0 x2.toNatClampNeg)), zi x2]) kX4_allLoads_30 (by decide) rfl ?_
      refine zt_iinc (v := (x2 + 1)) (L' := [zr 2 i0, zi (x1 + (h.1 15 i0 x2.toNatClampNeg)), zi (x2 + 1)]) kX4_allLoads_31 rfl rfl (by decide) rfl ?_
      refine zt_goto kX4_allLoads_34 ?_
      exact H

theorem kX4_weightOf_0 : zD cX4_weightOf 0 1 (.iconst 0) 1 := by decide +kernel
theorem kX4_weightOf_1 : zD cX4_weightOf 1 2 (.istore_n 2) 1 := by decide +kernel
theorem kX4_weightOf_2 : zD cX4_weightOf 2 3 (.iconst 0) 1 := by decide +kernel
theorem kX4_weightOf_3 : zD cX4_weightOf 3 4 (.istore_n 3) 1 := by decide +kernel
theorem kX4_weightOf_4 : zD cX4_weightOf 4 5 (.iload_n 3) 1 := by decide +kernel
theorem kX4_weightOf_5 : zD cX4_weightOf 5 7 (.bipush 12) 2 := by decide +kernel
theorem kX4_weightOf_7 : zB cX4_weightOf 7 10 33 (.if_icmp .ge 26) 26 := by decide +kernel
theorem kX4_weightOf_10 : zD cX4_weightOf 10 11 (.iload_n 1) 1 := by decide +kernel
theorem kX4_weightOf_11 : zD cX4_weightOf 11 12 (.iload_n 3) 1 := by decide +kernel
theorem kX4_weightOf_12 : zD cX4_weightOf 12 15 (.invokestatic 43) 3 := by decide +kernel
theorem kX4_weightOf_15 : zB cX4_weightOf 15 18 27 (.ifCond .eq 12) 12 := by decide +kernel
theorem kX4_weightOf_18 : zD cX4_weightOf 18 19 (.iload_n 2) 1 := by decide +kernel
theorem kX4_weightOf_19 : zD cX4_weightOf 19 20 (.aload_n 0) 1 := by decide +kernel
theorem kX4_weightOf_20 : zD cX4_weightOf 20 23 (.getfield 18) 3 := by decide +kernel
theorem kX4_weightOf_23 : zD cX4_weightOf 23 24 (.iload_n 3) 1 := by decide +kernel
theorem kX4_weightOf_24 : zD cX4_weightOf 24 25 (.iaload) 1 := by decide +kernel
theorem kX4_weightOf_25 : zD cX4_weightOf 25 26 (.iadd) 1 := by decide +kernel
theorem kX4_weightOf_26 : zD cX4_weightOf 26 27 (.istore_n 2) 1 := by decide +kernel
theorem kX4_weightOf_27 : zD cX4_weightOf 27 30 (.iinc 3 1) 3 := by decide +kernel
theorem kX4_weightOf_30 : zB cX4_weightOf 30 33 4 (.goto (-26)) (-26) := by decide +kernel
theorem kX4_weightOf_33 : zD cX4_weightOf 33 34 (.iload_n 2) 1 := by decide +kernel
theorem kX4_weightOf_34 : zD cX4_weightOf 34 35 (.ireturn) 1 := by decide +kernel
set_option maxRecDepth 10000 in
theorem wX4_weightOf_0 {G : ZG} {d : Nat} {h : ZH} {Q : Option ZV → ZH → Prop} {i0 : Nat} {x1 : Int32} (hi0 : i0 < zcnt 2)
  (H : zT G (d + 2) mX4_weightOf 4 [zr 2 i0, zi x1, zi 0, zi 0] [] h Q) :
  zT G (d + 2) mX4_weightOf 0 [zr 2 i0, zi x1, zu, zu] [] h Q := by
  refine zt_iconst (v := 0) kX4_weightOf_0 rfl ?_
  refine zt_istore_n (L' := [zr 2 i0, zi x1, zi 0, zu]) kX4_weightOf_1 (by decide) rfl ?_
  refine zt_iconst (v := 0) kX4_weightOf_2 rfl ?_
  refine zt_istore_n (L' := [zr 2 i0, zi x1, zi 0, zi 0]) kX4_weightOf_3 (by decide) rfl ?_
  exact H

set_option maxRecDepth 10000 in
theorem wX4_weightOf_4 {G : ZG} {d : Nat} {h : ZH} {Q : Option ZV → ZH → Prop} {i0 : Nat} {x1 : Int32} {x2 : Int32} {x3 : Int32} (hi0 : i0 < zcnt 2)
  (H : (12 ≤ x3 → Q (some (zi x2)) h) ∧ (¬ 12 ≤ x3 → (¬ (hasI x1 x3) → zT G (d + 2) mX4_weightOf 4 [zr 2 i0, zi x1, zi x2, zi (x3 + 1)] [] h Q) ∧ ((hasI x1 x3) → vp_in x3 12 ∧ zT G (d + 2) mX4_weightOf 4 [zr 2 i0, zi x1, zi (x2 + (h.1 12 i0 x3.toNatClampNeg)), zi (x3 + 1)] [] h Q))) :
  zT G (d + 2) mX4_weightOf 4 [zr 2 i0, zi x1, zi x2, zi x3] [] h Q := by
  refine zt_iload_n kX4_weightOf_4 rfl ?_
  refine zt_bipush (v := 12) kX4_weightOf_5 rfl ?_
  refine zt_icmp_ge kX4_weightOf_7 (fun c => ?_) (fun c => ?_)
  · replace H := H.1 c
    refine zt_iload_n kX4_weightOf_33 rfl ?_
    exact zt_iret kX4_weightOf_34 rfl H
  · replace H := H.2 c
    refine zt_iload_n kX4_weightOf_10 rfl ?_
    refine zt_iload_n kX4_weightOf_11 rfl ?_
    refine zt_cS (as := [zi x1, zi x3]) kX4_weightOf_12 sRX4_43 rfl (by simp) rfl (sX4_has _  ) (fun r h0 hq => ?_)
    obtain ⟨rfl, hh⟩ := hq
    replace hh := hh.symm
    subst hh
    refine zt_ifb_eq kX4_weightOf_15 (fun c => ?_) (fun c => ?_)
    · replace H := H.1 c
      refine zt_iinc (v := (x3 + 1)) (L' := [zr 2 i0, zi x1, zi x2, zi (x3 + 1)]) kX4_weightOf_27 rfl rfl (by decide) rfl ?_
      refine zt_goto kX4_weightOf_30 ?_
      exact H
    · replace H := H.2 c
      refine zt_iload_n kX4_weightOf_18 rfl ?_
      refine zt_aload_n kX4_weightOf_19 rfl ?_
      refine zt_get (v := zr 12 i0) kX4_weightOf_20 fRX4_18 rfl hi0 rfl ?_
      refine zt_iload_n kX4_weightOf_23 rfl ?_
      obtain ⟨hv, H⟩ := H
      refine zt_iald kX4_weightOf_24 rfl hi0 hv ?_
      refine zt_iadd kX4_weightOf_25 ?_
      refine zt_istore_n (L' := [zr 2 i0, zi x1, zi (x2 + (h.1 12 i0 x3.toNatClampNeg)), zi x3]) kX4_weightOf_26 (by decide) rfl ?_
      refine zt_iinc (v := (x3 + 1)) (L' := [zr 2 i0, zi x1, zi (x2 + (h.1 12 i0 x3.toNatClampNeg)), zi (x3 + 1)]) kX4_weightOf_27 rfl rfl (by decide) rfl ?_
      refine zt_goto kX4_weightOf_30 ?_
      exact H

theorem kX4_columnWeight_0 : zD cX4_columnWeight 0 3 (.sipush 273) 3 := by decide +kernel
theorem kX4_columnWeight_3 : zD cX4_columnWeight 3 4 (.iload_n 1) 1 := by decide +kernel
theorem kX4_columnWeight_4 : zD cX4_columnWeight 4 5 (.ishl) 1 := by decide +kernel
theorem kX4_columnWeight_5 : zD cX4_columnWeight 5 6 (.istore_n 2) 1 := by decide +kernel
theorem kX4_columnWeight_6 : zD cX4_columnWeight 6 7 (.aload_n 0) 1 := by decide +kernel
theorem kX4_columnWeight_7 : zD cX4_columnWeight 7 8 (.aload_n 0) 1 := by decide +kernel
theorem kX4_columnWeight_8 : zD cX4_columnWeight 8 11 (.getfield 30) 3 := by decide +kernel
theorem kX4_columnWeight_11 : zD cX4_columnWeight 11 12 (.iload_n 2) 1 := by decide +kernel
theorem kX4_columnWeight_12 : zD cX4_columnWeight 12 13 (.iand) 1 := by decide +kernel
theorem kX4_columnWeight_13 : zD cX4_columnWeight 13 16 (.invokevirtual 103) 3 := by decide +kernel
theorem kX4_columnWeight_16 : zD cX4_columnWeight 16 17 (.ireturn) 1 := by decide +kernel
set_option maxRecDepth 10000 in
theorem wX4_columnWeight_0 {G : ZG} {d : Nat} {h : ZH} {Q : Option ZV → ZH → Prop} {i0 : Nat} {x1 : Int32} (hi0 : i0 < zcnt 2)
  (H : zC G (d + 2) mX4_weightOf [zr 2 i0, zi ((h.1 2 i0 6) &&& ((273 : Int32) <<< (x1 &&& 31)))] h (fun r2 h1 => ∃ y3 : Int32, r2 = some (zi y3) ∧ Q (some (zi y3)) h1)) :
  zT G (d + 3) mX4_columnWeight 0 [zr 2 i0, zi x1, zu] [] h Q := by
  refine zt_sipush (v := 273) kX4_columnWeight_0 rfl ?_
  refine zt_iload_n kX4_columnWeight_3 rfl ?_
  refine zt_ishl kX4_columnWeight_4 ?_
  refine zt_istore_n (L' := [zr 2 i0, zi x1, zi ((273 : Int32) <<< (x1 &&& 31))]) kX4_columnWeight_5 (by decide) rfl ?_
  refine zt_aload_n kX4_columnWeight_6 rfl ?_
  refine zt_aload_n kX4_columnWeight_7 rfl ?_
  refine zt_get (v := zi (h.1 2 i0 6)) kX4_columnWeight_8 fRX4_30 rfl hi0 rfl ?_
  refine zt_iload_n kX4_columnWeight_11 rfl ?_
  refine zt_iand kX4_columnWeight_12 ?_
  refine zt_cV (as := [zi ((h.1 2 i0 6) &&& ((273 : Int32) <<< (x1 &&& 31)))]) kX4_columnWeight_13 sRX4_103 rfl hi0 rfl (by simp) rfl H (fun r2 h1 H => ?_)
  obtain ⟨y3, rfl, H⟩ := H
  exact zt_iret kX4_columnWeight_16 rfl H

theorem kX4_leftOverRight_0 : zD cX4_leftOverRight 0 1 (.aload_n 0) 1 := by decide +kernel
theorem kX4_leftOverRight_1 : zD cX4_leftOverRight 1 2 (.iconst 0) 1 := by decide +kernel
theorem kX4_leftOverRight_2 : zD cX4_leftOverRight 2 5 (.invokevirtual 106) 3 := by decide +kernel
theorem kX4_leftOverRight_5 : zD cX4_leftOverRight 5 6 (.aload_n 0) 1 := by decide +kernel
theorem kX4_leftOverRight_6 : zD cX4_leftOverRight 6 7 (.iconst 1) 1 := by decide +kernel
theorem kX4_leftOverRight_7 : zD cX4_leftOverRight 7 10 (.invokevirtual 106) 3 := by decide +kernel
theorem kX4_leftOverRight_10 : zD cX4_leftOverRight 10 11 (.iadd) 1 := by decide +kernel
theorem kX4_leftOverRight_11 : zD cX4_leftOverRight 11 12 (.aload_n 0) 1 := by decide +kernel
theorem kX4_leftOverRight_12 : zD cX4_leftOverRight 12 13 (.iconst 2) 1 := by decide +kernel
theorem kX4_leftOverRight_13 : zD cX4_leftOverRight 13 16 (.invokevirtual 106) 3 := by decide +kernel
theorem kX4_leftOverRight_16 : zD cX4_leftOverRight 16 17 (.isub) 1 := by decide +kernel
theorem kX4_leftOverRight_17 : zD cX4_leftOverRight 17 18 (.aload_n 0) 1 := by decide +kernel
theorem kX4_leftOverRight_18 : zD cX4_leftOverRight 18 19 (.iconst 3) 1 := by decide +kernel
theorem kX4_leftOverRight_19 : zD cX4_leftOverRight 19 22 (.invokevirtual 106) 3 := by decide +kernel
theorem kX4_leftOverRight_22 : zD cX4_leftOverRight 22 23 (.isub) 1 := by decide +kernel
theorem kX4_leftOverRight_23 : zD cX4_leftOverRight 23 24 (.ireturn) 1 := by decide +kernel
set_option maxRecDepth 10000 in
theorem wX4_leftOverRight_0 {G : ZG} {d : Nat} {h : ZH} {Q : Option ZV → ZH → Prop} {i0 : Nat} (hi0 : i0 < zcnt 2)
  (H : zC G (d + 3) mX4_columnWeight [zr 2 i0, zi 0] h (fun r2 h1 => ∃ y3 : Int32, r2 = some (zi y3) ∧ zC G (d + 3) mX4_columnWeight [zr 2 i0, zi 1] h1 (fun r5 h4 => ∃ y6 : Int32, r5 = some (zi y6) ∧ zC G (d + 3) mX4_columnWeight [zr 2 i0, zi 2] h4 (fun r8 h7 => ∃ y9 : Int32, r8 = some (zi y9) ∧ zC G (d + 3) mX4_columnWeight [zr 2 i0, zi 3] h7 (fun r11 h10 => ∃ y12 : Int32, r11 = some (zi y12) ∧ Q (some (zi (((y3 + y6) - y9) - y12))) h10))))) :
  zT G (d + 4) mX4_leftOverRight 0 [zr 2 i0] [] h Q := by
  refine zt_aload_n kX4_leftOverRight_0 rfl ?_
  refine zt_iconst (v := 0) kX4_leftOverRight_1 rfl ?_
  refine zt_cV (as := [zi 0]) kX4_leftOverRight_2 sRX4_106 rfl hi0 rfl (by simp) rfl H (fun r2 h1 H => ?_)
  obtain ⟨y3, rfl, H⟩ := H
  refine zt_aload_n kX4_leftOverRight_5 rfl ?_
  refine zt_iconst (v := 1) kX4_leftOverRight_6 rfl ?_
  refine zt_cV (as := [zi 1]) kX4_leftOverRight_7 sRX4_106 rfl hi0 rfl (by simp) rfl H (fun r5 h4 H => ?_)
  obtain ⟨y6, rfl, H⟩ := H
  refine zt_iadd kX4_leftOverRight_10 ?_
  refine zt_aload_n kX4_leftOverRight_11 rfl ?_
  refine zt_iconst (v := 2) kX4_leftOverRight_12 rfl ?_
  refine zt_cV (as := [zi 2]) kX4_leftOverRight_13 sRX4_106 rfl hi0 rfl (by simp) rfl H (fun r8 h7 H => ?_)
  obtain ⟨y9, rfl, H⟩ := H
  refine zt_isub kX4_leftOverRight_16 ?_
  refine zt_aload_n kX4_leftOverRight_17 rfl ?_
  refine zt_iconst (v := 3) kX4_leftOverRight_18 rfl ?_
  refine zt_cV (as := [zi 3]) kX4_leftOverRight_19 sRX4_106 rfl hi0 rfl (by simp) rfl H (fun r11 h10 H => ?_)
  obtain ⟨y12, rfl, H⟩ := H
  refine zt_isub kX4_leftOverRight_22 ?_
  exact zt_iret kX4_leftOverRight_23 rfl H

theorem kX4_heaviestColumn_0 : zD cX4_heaviestColumn 0 1 (.iconst 0) 1 := by decide +kernel
theorem kX4_heaviestColumn_1 : zD cX4_heaviestColumn 1 2 (.istore_n 1) 1 := by decide +kernel
theorem kX4_heaviestColumn_2 : zD cX4_heaviestColumn 2 3 (.iconst 1) 1 := by decide +kernel
theorem kX4_heaviestColumn_3 : zD cX4_heaviestColumn 3 4 (.istore_n 2) 1 := by decide +kernel
theorem kX4_heaviestColumn_4 : zD cX4_heaviestColumn 4 5 (.iload_n 2) 1 := by decide +kernel
theorem kX4_heaviestColumn_5 : zD cX4_heaviestColumn 5 6 (.iconst 4) 1 := by decide +kernel
theorem kX4_heaviestColumn_6 : zB cX4_heaviestColumn 6 9 30 (.if_icmp .ge 24) 24 := by decide +kernel
theorem kX4_heaviestColumn_9 : zD cX4_heaviestColumn 9 10 (.aload_n 0) 1 := by decide +kernel
theorem kX4_heaviestColumn_10 : zD cX4_heaviestColumn 10 11 (.iload_n 2) 1 := by decide +kernel
theorem kX4_heaviestColumn_11 : zD cX4_heaviestColumn 11 14 (.invokevirtual 106) 3 := by decide +kernel
theorem kX4_heaviestColumn_14 : zD cX4_heaviestColumn 14 15 (.aload_n 0) 1 := by decide +kernel
theorem kX4_heaviestColumn_15 : zD cX4_heaviestColumn 15 16 (.iload_n 1) 1 := by decide +kernel
theorem kX4_heaviestColumn_16 : zD cX4_heaviestColumn 16 19 (.invokevirtual 106) 3 := by decide +kernel
theorem kX4_heaviestColumn_19 : zB cX4_heaviestColumn 19 22 24 (.if_icmp .le 5) 5 := by decide +kernel
theorem kX4_heaviestColumn_22 : zD cX4_heaviestColumn 22 23 (.iload_n 2) 1 := by decide +kernel
theorem kX4_heaviestColumn_23 : zD cX4_heaviestColumn 23 24 (.istore_n 1) 1 := by decide +kernel
theorem kX4_heaviestColumn_24 : zD cX4_heaviestColumn 24 27 (.iinc 2 1) 3 := by decide +kernel
theorem kX4_heaviestColumn_27 : zB cX4_heaviestColumn 27 30 4 (.goto (-23)) (-23) := by decide +kernel
theorem kX4_heaviestColumn_30 : zD cX4_heaviestColumn 30 31 (.iload_n 1) 1 := by decide +kernel
theorem kX4_heaviestColumn_31 : zD cX4_heaviestColumn 31 32 (.ireturn) 1 := by decide +kernel
set_option maxRecDepth 10000 in
theorem wX4_heaviestColumn_0 {G : ZG} {d : Nat} {h : ZH} {Q : Option ZV → ZH → Prop} {i0 : Nat} (hi0 : i0 < zcnt 2)
  (H : zT G (d + 4) mX4_heaviestColumn 4 [zr 2 i0, zi 0, zi 1] [] h Q) :
  zT G (d + 4) mX4_heaviestColumn 0 [zr 2 i0, zu, zu] [] h Q := by
  refine zt_iconst (v := 0) kX4_heaviestColumn_0 rfl ?_
  refine zt_istore_n (L' := [zr 2 i0, zi 0, zu]) kX4_heaviestColumn_1 (by decide) rfl ?_
  refine zt_iconst (v := 1) kX4_heaviestColumn_2 rfl ?_
  refine zt_istore_n (L' := [zr 2 i0, zi 0, zi 1]) kX4_heaviestColumn_3 (by decide) rfl ?_
  exact H

set_option maxRecDepth 10000 in
theorem wX4_heaviestColumn_4 {G : ZG} {d : Nat} {h : ZH} {Q : Option ZV → ZH → Prop} {i0 : Nat} {x1 : Int32} {x2 : Int32} (hi0 : i0 < zcnt 2)
  (H : (4 ≤ x2 → Q (some (zi x1)) h) ∧ (¬ 4 ≤ x2 → zC G (d + 3) mX4_columnWeight [zr 2 i0, zi x2] h (fun r2 h1 => ∃ y3 : Int32, r2 = some (zi y3) ∧ zC G (d + 3) mX4_columnWeight [zr 2 i0, zi x1] h1 (fun r5 h4 => ∃ y6 : Int32, r5 = some (zi y6) ∧ (y3 ≤ y6 → zT G (d + 4) mX4_heaviestColumn 4 [zr 2 i0, zi x1, zi (x2 + 1)] [] h4 Q) ∧ (¬ y3 ≤ y6 → zT G (d + 4) mX4_heaviestColumn 4 [zr 2 i0, zi x2, zi (x2 + 1)] [] h4 Q))))) :
  zT G (d + 4) mX4_heaviestColumn 4 [zr 2 i0, zi x1, zi x2] [] h Q := by
  refine zt_iload_n kX4_heaviestColumn_4 rfl ?_
  refine zt_iconst (v := 4) kX4_heaviestColumn_5 rfl ?_
  refine zt_icmp_ge kX4_heaviestColumn_6 (fun c => ?_) (fun c => ?_)
  · replace H := H.1 c
    refine zt_iload_n kX4_heaviestColumn_30 rfl ?_
    exact zt_iret kX4_heaviestColumn_31 rfl H
  · replace H := H.2 c
    refine zt_aload_n kX4_heaviestColumn_9 rfl ?_
    refine zt_iload_n kX4_heaviestColumn_10 rfl ?_
    refine zt_cV (as := [zi x2]) kX4_heaviestColumn_11 sRX4_106 rfl hi0 rfl (by simp) rfl H (fun r2 h1 H => ?_)
    obtain ⟨y3, rfl, H⟩ := H
    refine zt_aload_n kX4_heaviestColumn_14 rfl ?_
    refine zt_iload_n kX4_heaviestColumn_15 rfl ?_
    refine zt_cV (as := [zi x1]) kX4_heaviestColumn_16 sRX4_106 rfl hi0 rfl (by simp) rfl H (fun r5 h4 H => ?_)
    obtain ⟨y6, rfl, H⟩ := H
    refine zt_icmp_le kX4_heaviestColumn_19 (fun c => ?_) (fun c => ?_)
    · replace H := H.1 c
      refine zt_iinc (v := (x2 + 1)) (L' := [zr 2 i0, zi x1, zi (x2 + 1)]) kX4_heaviestColumn_24 rfl rfl (by decide) rfl ?_
      refine zt_goto kX4_heaviestColumn_27 ?_
      exact H
    · replace H := H.2 c
      refine zt_iload_n kX4_heaviestColumn_22 rfl ?_
      refine zt_istore_n (L' := [zr 2 i0, zi x2, zi x2]) kX4_heaviestColumn_23 (by decide) rfl ?_
      refine zt_iinc (v := (x2 + 1)) (L' := [zr 2 i0, zi x2, zi (x2 + 1)]) kX4_heaviestColumn_24 rfl rfl (by decide) rfl ?_
      refine zt_goto kX4_heaviestColumn_27 ?_
      exact H

theorem kX4_highestRow_0 : zD cX4_highestRow 0 2 (.bipush 11) 2 := by decide +kernel
theorem kX4_highestRow_2 : zD cX4_highestRow 2 3 (.istore_n 1) 1 := by decide +kernel
theorem kX4_highestRow_3 : zD cX4_highestRow 3 4 (.iload_n 1) 1 := by decide +kernel
theorem kX4_highestRow_4 : zB cX4_highestRow 4 7 25 (.ifCond .lt 21) 21 := by decide +kernel
theorem kX4_highestRow_7 : zD cX4_highestRow 7 8 (.aload_n 0) 1 := by decide +kernel
theorem kX4_highestRow_8 : zD cX4_highestRow 8 9 (.iload_n 1) 1 := by decide +kernel
theorem kX4_highestRow_9 : zD cX4_highestRow 9 12 (.invokevirtual 99) 3 := by decide +kernel
theorem kX4_highestRow_12 : zB cX4_highestRow 12 15 19 (.ifCond .eq 7) 7 := by decide +kernel
theorem kX4_highestRow_15 : zD cX4_highestRow 15 16 (.iload_n 1) 1 := by decide +kernel
theorem kX4_highestRow_16 : zD cX4_highestRow 16 17 (.iconst 4) 1 := by decide +kernel
theorem kX4_highestRow_17 : zD cX4_highestRow 17 18 (.idiv) 1 := by decide +kernel
theorem kX4_highestRow_18 : zD cX4_highestRow 18 19 (.ireturn) 1 := by decide +kernel
theorem kX4_highestRow_19 : zD cX4_highestRow 19 22 (.iinc 1 (-1)) 3 := by decide +kernel
theorem kX4_highestRow_22 : zB cX4_highestRow 22 25 3 (.goto (-19)) (-19) := by decide +kernel
theorem kX4_highestRow_25 : zD cX4_highestRow 25 27 (.bipush (-4)) 2 := by decide +kernel
theorem kX4_highestRow_27 : zD cX4_highestRow 27 28 (.ireturn) 1 := by decide +kernel
set_option maxRecDepth 10000 in
theorem wX4_highestRow_0 {G : ZG} {d : Nat} {h : ZH} {Q : Option ZV → ZH → Prop} {i0 : Nat} (hi0 : i0 < zcnt 2)
  (H : zT G (d + 3) mX4_highestRow 3 [zr 2 i0, zi 11] [] h Q) :
  zT G (d + 3) mX4_highestRow 0 [zr 2 i0, zu] [] h Q := by
  refine zt_bipush (v := 11) kX4_highestRow_0 rfl ?_
  refine zt_istore_n (L' := [zr 2 i0, zi 11]) kX4_highestRow_2 (by decide) rfl ?_
  exact H

set_option maxRecDepth 10000 in
theorem wX4_highestRow_3 {G : ZG} {d : Nat} {h : ZH} {Q : Option ZV → ZH → Prop} {i0 : Nat} {x1 : Int32} (hi0 : i0 < zcnt 2)
  (H : (x1 < 0 → Q (some (zi (-4))) h) ∧ (¬ x1 < 0 → (¬ (hasI (h.1 2 i0 6) x1) → zT G (d + 3) mX4_highestRow 3 [zr 2 i0, zi (x1 + (-1))] [] h Q) ∧ ((hasI (h.1 2 i0 6) x1) → Q (some (zi (x1 / 4))) h))) :
  zT G (d + 3) mX4_highestRow 3 [zr 2 i0, zi x1] [] h Q := by
  refine zt_iload_n kX4_highestRow_3 rfl ?_
  refine zt_if_lt kX4_highestRow_4 (fun c => ?_) (fun c => ?_)
  · replace H := H.1 c
    refine zt_bipush (v := (-4)) kX4_highestRow_25 rfl ?_
    exact zt_iret kX4_highestRow_27 rfl H
  · replace H := H.2 c
    refine zt_aload_n kX4_highestRow_7 rfl ?_
    refine zt_iload_n kX4_highestRow_8 rfl ?_
    refine zt_cV (as := [zi x1]) kX4_highestRow_9 sRX4_99 rfl hi0 rfl (by simp) rfl (sX4_holds _ hi0 ) (fun r h0 hq => ?_)
    obtain ⟨rfl, hh⟩ := hq
    replace hh := hh.symm
    subst hh
    refine zt_ifb_eq kX4_highestRow_12 (fun c => ?_) (fun c => ?_)
    · replace H := H.1 c
      refine zt_iinc (v := (x1 + (-1))) (L' := [zr 2 i0, zi (x1 + (-1))]) kX4_highestRow_19 rfl rfl (by decide) rfl ?_
      refine zt_goto kX4_highestRow_22 ?_
      exact H
    · replace H := H.2 c
      refine zt_iload_n kX4_highestRow_15 rfl ?_
      refine zt_iconst (v := 4) kX4_highestRow_16 rfl ?_
      refine zt_idiv kX4_highestRow_17 (by decide) ?_
      exact zt_iret kX4_highestRow_18 rfl H

theorem kX4_inHighestRow_0 : zD cX4_inHighestRow 0 1 (.aload_n 0) 1 := by decide +kernel
theorem kX4_inHighestRow_1 : zD cX4_inHighestRow 1 4 (.invokevirtual 109) 3 := by decide +kernel
theorem kX4_inHighestRow_4 : zD cX4_inHighestRow 4 5 (.istore_n 1) 1 := by decide +kernel
theorem kX4_inHighestRow_5 : zD cX4_inHighestRow 5 6 (.iload_n 1) 1 := by decide +kernel
theorem kX4_inHighestRow_6 : zD cX4_inHighestRow 6 8 (.bipush (-4)) 2 := by decide +kernel
theorem kX4_inHighestRow_8 : zB cX4_inHighestRow 8 11 16 (.if_icmp .ne 8) 8 := by decide +kernel
theorem kX4_inHighestRow_11 : zD cX4_inHighestRow 11 13 (.bipush (-4)) 2 := by decide +kernel
theorem kX4_inHighestRow_13 : zB cX4_inHighestRow 13 16 30 (.goto 17) 17 := by decide +kernel
theorem kX4_inHighestRow_16 : zD cX4_inHighestRow 16 17 (.aload_n 0) 1 := by decide +kernel
theorem kX4_inHighestRow_17 : zD cX4_inHighestRow 17 20 (.getfield 30) 3 := by decide +kernel
theorem kX4_inHighestRow_20 : zD cX4_inHighestRow 20 22 (.bipush 15) 2 := by decide +kernel
theorem kX4_inHighestRow_22 : zD cX4_inHighestRow 22 23 (.iconst 4) 1 := by decide +kernel
theorem kX4_inHighestRow_23 : zD cX4_inHighestRow 23 24 (.iload_n 1) 1 := by decide +kernel
theorem kX4_inHighestRow_24 : zD cX4_inHighestRow 24 25 (.imul) 1 := by decide +kernel
theorem kX4_inHighestRow_25 : zD cX4_inHighestRow 25 26 (.ishl) 1 := by decide +kernel
theorem kX4_inHighestRow_26 : zD cX4_inHighestRow 26 27 (.iand) 1 := by decide +kernel
theorem kX4_inHighestRow_27 : zD cX4_inHighestRow 27 30 (.invokestatic 71) 3 := by decide +kernel
theorem kX4_inHighestRow_30 : zD cX4_inHighestRow 30 31 (.ireturn) 1 := by decide +kernel
set_option maxRecDepth 10000 in
theorem wX4_inHighestRow_0 {G : ZG} {d : Nat} {h : ZH} {Q : Option ZV → ZH → Prop} {i0 : Nat} (hi0 : i0 < zcnt 2)
  (H : zC G (d + 3) mX4_highestRow [zr 2 i0] h (fun r2 h1 => ∃ y3 : Int32, r2 = some (zi y3) ∧ (¬ y3 = (-4) → Q (some (zi (bcI ((h1.1 2 i0 6) &&& ((15 : Int32) <<< ((4 * y3) &&& 31)))))) h1) ∧ (y3 = (-4) → Q (some (zi (-4))) h1))) :
  zT G (d + 4) mX4_inHighestRow 0 [zr 2 i0, zu] [] h Q := by
  refine zt_aload_n kX4_inHighestRow_0 rfl ?_
  refine zt_cV (as := []) kX4_inHighestRow_1 sRX4_109 rfl hi0 rfl (by simp) rfl H (fun r2 h1 H => ?_)
  obtain ⟨y3, rfl, H⟩ := H
  refine zt_istore_n (L' := [zr 2 i0, zi y3]) kX4_inHighestRow_4 (by decide) rfl ?_
  refine zt_iload_n kX4_inHighestRow_5 rfl ?_
  refine zt_bipush (v := (-4)) kX4_inHighestRow_6 rfl ?_
  refine zt_icmp_ne kX4_inHighestRow_8 (fun c => ?_) (fun c => ?_)
  · replace H := H.1 c
    refine zt_aload_n kX4_inHighestRow_16 rfl ?_
    refine zt_get (v := zi (h1.1 2 i0 6)) kX4_inHighestRow_17 fRX4_30 rfl hi0 rfl ?_
    refine zt_bipush (v := 15) kX4_inHighestRow_20 rfl ?_
    refine zt_iconst (v := 4) kX4_inHighestRow_22 rfl ?_
    refine zt_iload_n kX4_inHighestRow_23 rfl ?_
    refine zt_imul kX4_inHighestRow_24 ?_
    refine zt_ishl kX4_inHighestRow_25 ?_
    refine zt_iand kX4_inHighestRow_26 ?_
    refine zt_cS (as := [zi ((h1.1 2 i0 6) &&& ((15 : Int32) <<< ((4 * y3) &&& 31)))]) kX4_inHighestRow_27 sRX4_71 rfl (by simp) rfl (sJ6_bitCount_0f7a4 _  ) (fun r h0 hq => ?_)
    obtain ⟨rfl, hh⟩ := hq
    replace hh := hh.symm
    subst hh
    exact zt_iret kX4_inHighestRow_30 rfl H
  · replace H := H.2 c
    refine zt_bipush (v := (-4)) kX4_inHighestRow_11 rfl ?_
    refine zt_goto kX4_inHighestRow_13 ?_
    exact zt_iret kX4_inHighestRow_30 rfl H

theorem kX11_stone_0 : zD cX11_stone 0 1 (.iload_n 1) 1 := by decide +kernel
theorem kX11_stone_1 : zD cX11_stone 1 4 (.invokestatic 86) 3 := by decide +kernel
theorem kX11_stone_4 : zB cX11_stone 4 7 16 (.ifCond .eq 12) 12 := by decide +kernel
theorem kX11_stone_7 : zD cX11_stone 7 8 (.iload_n 2) 1 := by decide +kernel
theorem kX11_stone_8 : zB cX11_stone 8 11 16 (.ifCond .lt 8) 8 := by decide +kernel
theorem kX11_stone_11 : zD cX11_stone 11 12 (.iload_n 2) 1 := by decide +kernel
theorem kX11_stone_12 : zD cX11_stone 12 13 (.iconst 5) 1 := by decide +kernel
theorem kX11_stone_13 : zB cX11_stone 13 16 18 (.if_icmp .le 5) 5 := by decide +kernel
theorem kX11_stone_16 : zD cX11_stone 16 17 (.iconst (-1)) 1 := by decide +kernel
theorem kX11_stone_17 : zD cX11_stone 17 18 (.ireturn) 1 := by decide +kernel
theorem kX11_stone_18 : zD cX11_stone 18 19 (.aload_n 0) 1 := by decide +kernel
theorem kX11_stone_19 : zD cX11_stone 19 22 (.getfield 48) 3 := by decide +kernel
theorem kX11_stone_22 : zD cX11_stone 22 23 (.iload_n 1) 1 := by decide +kernel
theorem kX11_stone_23 : zD cX11_stone 23 26 (.invokevirtual 90) 3 := by decide +kernel
theorem kX11_stone_26 : zB cX11_stone 26 29 32 (.ifCond .ne 6) 6 := by decide +kernel
theorem kX11_stone_29 : zD cX11_stone 29 31 (.bipush (-3)) 2 := by decide +kernel
theorem kX11_stone_31 : zD cX11_stone 31 32 (.ireturn) 1 := by decide +kernel
theorem kX11_stone_32 : zD cX11_stone 32 33 (.aload_n 0) 1 := by decide +kernel
theorem kX11_stone_33 : zD cX11_stone 33 36 (.getfield 48) 3 := by decide +kernel
theorem kX11_stone_36 : zD cX11_stone 36 39 (.invokevirtual 93) 3 := by decide +kernel
theorem kX11_stone_39 : zD cX11_stone 39 40 (.iload_n 2) 1 := by decide +kernel
theorem kX11_stone_40 : decode cX11_stone 40 = .ok (.tableswitch 86 0 4 #[36, 46, 56, 66, 76], 36) := by decide +kernel
theorem kX11_stone_76 : zD cX11_stone 76 77 (.aload_n 0) 1 := by decide +kernel
theorem kX11_stone_77 : zD cX11_stone 77 80 (.getfield 48) 3 := by decide +kernel
theorem kX11_stone_80 : zD cX11_stone 80 83 (.getfield 96) 3 := by decide +kernel
theorem kX11_stone_83 : zD cX11_stone 83 84 (.iload_n 1) 1 := by decide +kernel
theorem kX11_stone_84 : zD cX11_stone 84 85 (.iaload) 1 := by decide +kernel
theorem kX11_stone_85 : zD cX11_stone 85 86 (.ireturn) 1 := by decide +kernel
theorem kX11_stone_86 : zD cX11_stone 86 87 (.aload_n 0) 1 := by decide +kernel
theorem kX11_stone_87 : zD cX11_stone 87 90 (.getfield 48) 3 := by decide +kernel
theorem kX11_stone_90 : zD cX11_stone 90 93 (.getfield 99) 3 := by decide +kernel
theorem kX11_stone_93 : zD cX11_stone 93 94 (.iload_n 1) 1 := by decide +kernel
theorem kX11_stone_94 : zD cX11_stone 94 95 (.iaload) 1 := by decide +kernel
theorem kX11_stone_95 : zD cX11_stone 95 96 (.ireturn) 1 := by decide +kernel
theorem kX11_stone_96 : zD cX11_stone 96 97 (.aload_n 0) 1 := by decide +kernel
theorem kX11_stone_97 : zD cX11_stone 97 100 (.getfield 48) 3 := by decide +kernel
theorem kX11_stone_100 : zD cX11_stone 100 103 (.getfield 102) 3 := by decide +kernel
theorem kX11_stone_103 : zD cX11_stone 103 104 (.iload_n 1) 1 := by decide +kernel
theorem kX11_stone_104 : zD cX11_stone 104 105 (.iaload) 1 := by decide +kernel
theorem kX11_stone_105 : zD cX11_stone 105 106 (.ireturn) 1 := by decide +kernel
theorem kX11_stone_106 : zD cX11_stone 106 107 (.aload_n 0) 1 := by decide +kernel
theorem kX11_stone_107 : zD cX11_stone 107 110 (.getfield 48) 3 := by decide +kernel
theorem kX11_stone_110 : zD cX11_stone 110 113 (.getfield 105) 3 := by decide +kernel
theorem kX11_stone_113 : zD cX11_stone 113 114 (.iload_n 1) 1 := by decide +kernel
theorem kX11_stone_114 : zD cX11_stone 114 115 (.iaload) 1 := by decide +kernel
theorem kX11_stone_115 : zD cX11_stone 115 116 (.ireturn) 1 := by decide +kernel
theorem kX11_stone_116 : zD cX11_stone 116 117 (.aload_n 0) 1 := by decide +kernel
theorem kX11_stone_117 : zD cX11_stone 117 120 (.getfield 48) 3 := by decide +kernel
theorem kX11_stone_120 : zD cX11_stone 120 123 (.getfield 108) 3 := by decide +kernel
theorem kX11_stone_123 : zD cX11_stone 123 124 (.iload_n 1) 1 := by decide +kernel
theorem kX11_stone_124 : zD cX11_stone 124 125 (.iaload) 1 := by decide +kernel
theorem kX11_stone_125 : zD cX11_stone 125 126 (.ireturn) 1 := by decide +kernel
theorem kX11_stone_126 : zD cX11_stone 126 127 (.aload_n 0) 1 := by decide +kernel
theorem kX11_stone_127 : zD cX11_stone 127 130 (.getfield 48) 3 := by decide +kernel
theorem kX11_stone_130 : zD cX11_stone 130 131 (.iload_n 1) 1 := by decide +kernel
theorem kX11_stone_131 : zD cX11_stone 131 134 (.invokevirtual 111) 3 := by decide +kernel
theorem kX11_stone_134 : zD cX11_stone 134 135 (.ireturn) 1 := by decide +kernel
set_option maxRecDepth 10000 in
theorem wX11_stone_0 {G : ZG} {d : Nat} {h : ZH} {Q : Option ZV → ZH → Prop} {x1 : Int32} {x2 : Int32} 
  (H : (¬ (0 ≤ x1 ∧ x1 ≤ 11) → Q (some (zi (-1))) h) ∧ ((0 ≤ x1 ∧ x1 ≤ 11) → (x2 < 0 → Q (some (zi (-1))) h) ∧ (¬ x2 < 0 → (x2 ≤ 5 → ((hasI (h.1 2 0 6) x1) → zC G (d + 4) mX4_weighAll [zr 2 0] h (fun r2 h1 => r2 = none ∧ (x2 = 0 → vp_in x1 12 ∧ Q (some (zi (h1.1 10 0 x1.toNatClampNeg))) h1) ∧ (¬ x2 = 0 → (x2 = 1 → vp_in x1 12 ∧ Q (some (zi (h1.1 11 0 x1.toNatClampNeg))) h1) ∧ (¬ x2 = 1 → (x2 = 2 → vp_in x1 12 ∧ Q (some (zi (h1.1 12 0 x1.toNatClampNeg))) h1) ∧ (¬ x2 = 2 → (x2 = 3 → vp_in x1 12 ∧ Q (some (zi (h1.1 13 0 x1.toNatClampNeg))) h1) ∧ (¬ x2 = 3 → (x2 = 4 → vp_in x1 12 ∧ Q (some (zi (h1.1 15 0 x1.toNatClampNeg))) h1) ∧ (¬ x2 = 4 → vp_in x1 12 ∧ (Q (some (zi (noteI (h1.1 12 0 x1.toNatClampNeg) (h1.1 15 0 x1.toNatClampNeg)))) h1)))))))) ∧ (¬ (hasI (h.1 2 0 6) x1) → Q (some (zi (-3))) h)) ∧ (¬ x2 ≤ 5 → Q (some (zi (-1))) h)))) :
  zT G (d + 5) mX11_stone 0 [zr 0 0, zi x1, zi x2] [] h Q := by
  refine zt_iload_n kX11_stone_0 rfl ?_
  refine zt_cS (as := [zi x1]) kX11_stone_1 sRX11_86 rfl (by simp) rfl (sX11_isPlace _  ) (fun r h0 hq => ?_)
  obtain ⟨rfl, hh⟩ := hq
  replace hh := hh.symm
  subst hh
  refine zt_ifb_eq kX11_stone_4 (fun c => ?_) (fun c => ?_)
  · replace H := H.1 c
    refine zt_iconst (v := (-1)) kX11_stone_16 rfl ?_
    exact zt_iret kX11_stone_17 rfl H
  · replace H := H.2 c
    refine zt_iload_n kX11_stone_7 rfl ?_
    refine zt_if_lt kX11_stone_8 (fun c => ?_) (fun c => ?_)
    · replace H := H.1 c
      refine zt_iconst (v := (-1)) kX11_stone_16 rfl ?_
      exact zt_iret kX11_stone_17 rfl H
    · replace H := H.2 c
      refine zt_iload_n kX11_stone_11 rfl ?_
      refine zt_iconst (v := 5) kX11_stone_12 rfl ?_
      refine zt_icmp_le kX11_stone_13 (fun c => ?_) (fun c => ?_)
      · replace H := H.1 c
        refine zt_aload_n kX11_stone_18 rfl ?_
        refine zt_get (v := zr 2 0) kX11_stone_19 fRX11_48 rfl (by decide) rfl ?_
        refine zt_iload_n kX11_stone_22 rfl ?_
        refine zt_cV (as := [zi x1]) kX11_stone_23 sRX11_90 rfl (by decide) rfl (by simp) rfl (sX4_holds _ (by decide) ) (fun r h0 hq => ?_)
        obtain ⟨rfl, hh⟩ := hq
        replace hh := hh.symm
        subst hh
        refine zt_ifb_ne kX11_stone_26 (fun c => ?_) (fun c => ?_)
        · replace H := H.1 c
          refine zt_aload_n kX11_stone_32 rfl ?_
          refine zt_get (v := zr 2 0) kX11_stone_33 fRX11_48 rfl (by decide) rfl ?_
          refine zt_cV (as := []) kX11_stone_36 sRX11_93 rfl (by decide) rfl (by simp) rfl H (fun r2 h1 H => ?_)
          obtain ⟨rfl, H⟩ := H
          refine zt_iload_n kX11_stone_39 rfl ?_
          rcases Classical.em (x2 = 0) with c0 | c0
          · replace H := H.1 c0
            refine zt_tabIn (tgt := 76) kX11_stone_40 (by rw [c0]; decide) (by rw [c0]; decide) (by rw [c0]; rfl) (by decide) ?_
            refine zt_aload_n kX11_stone_76 rfl ?_
            refine zt_get (v := zr 2 0) kX11_stone_77 fRX11_48 rfl (by decide) rfl ?_
            refine zt_get (v := zr 10 0) kX11_stone_80 fRX11_96 rfl (by decide) rfl ?_
            refine zt_iload_n kX11_stone_83 rfl ?_
            obtain ⟨hv, H⟩ := H
            refine zt_iald kX11_stone_84 rfl (by decide) hv ?_
            exact zt_iret kX11_stone_85 rfl H
          replace H := H.2 c0
          rcases Classical.em (x2 = 1) with c1 | c1
          · replace H := H.1 c1
            refine zt_tabIn (tgt := 86) kX11_stone_40 (by rw [c1]; decide) (by rw [c1]; decide) (by rw [c1]; rfl) (by decide) ?_
            refine zt_aload_n kX11_stone_86 rfl ?_
            refine zt_get (v := zr 2 0) kX11_stone_87 fRX11_48 rfl (by decide) rfl ?_
            refine zt_get (v := zr 11 0) kX11_stone_90 fRX11_99 rfl (by decide) rfl ?_
            refine zt_iload_n kX11_stone_93 rfl ?_
            obtain ⟨hv, H⟩ := H
            refine zt_iald kX11_stone_94 rfl (by decide) hv ?_
            exact zt_iret kX11_stone_95 rfl H
          replace H := H.2 c1
          rcases Classical.em (x2 = 2) with c2 | c2
          · replace H := H.1 c2
            refine zt_tabIn (tgt := 96) kX11_stone_40 (by rw [c2]; decide) (by rw [c2]; decide) (by rw [c2]; rfl) (by decide) ?_
            refine zt_aload_n kX11_stone_96 rfl ?_
            refine zt_get (v := zr 2 0) kX11_stone_97 fRX11_48 rfl (by decide) rfl ?_
            refine zt_get (v := zr 12 0) kX11_stone_100 fRX11_102 rfl (by decide) rfl ?_
            refine zt_iload_n kX11_stone_103 rfl ?_
            obtain ⟨hv, H⟩ := H
            refine zt_iald kX11_stone_104 rfl (by decide) hv ?_
            exact zt_iret kX11_stone_105 rfl H
          replace H := H.2 c2
          rcases Classical.em (x2 = 3) with c3 | c3
          · replace H := H.1 c3
            refine zt_tabIn (tgt := 106) kX11_stone_40 (by rw [c3]; decide) (by rw [c3]; decide) (by rw [c3]; rfl) (by decide) ?_
            refine zt_aload_n kX11_stone_106 rfl ?_
            refine zt_get (v := zr 2 0) kX11_stone_107 fRX11_48 rfl (by decide) rfl ?_
            refine zt_get (v := zr 13 0) kX11_stone_110 fRX11_105 rfl (by decide) rfl ?_
            refine zt_iload_n kX11_stone_113 rfl ?_
            obtain ⟨hv, H⟩ := H
            refine zt_iald kX11_stone_114 rfl (by decide) hv ?_
            exact zt_iret kX11_stone_115 rfl H
          replace H := H.2 c3
          rcases Classical.em (x2 = 4) with c4 | c4
          · replace H := H.1 c4
            refine zt_tabIn (tgt := 116) kX11_stone_40 (by rw [c4]; decide) (by rw [c4]; decide) (by rw [c4]; rfl) (by decide) ?_
            refine zt_aload_n kX11_stone_116 rfl ?_
            refine zt_get (v := zr 2 0) kX11_stone_117 fRX11_48 rfl (by decide) rfl ?_
            refine zt_get (v := zr 15 0) kX11_stone_120 fRX11_108 rfl (by decide) rfl ?_
            refine zt_iload_n kX11_stone_123 rfl ?_
            obtain ⟨hv, H⟩ := H
            refine zt_iald kX11_stone_124 rfl (by decide) hv ?_
            exact zt_iret kX11_stone_125 rfl H
          replace H := H.2 c4
          refine zt_tabOut (tgt := 126) kX11_stone_40 (by have n0 := lv_neT (a := 0) c0 rfl; have n1 := lv_neT (a := 1) c1 rfl; have n2 := lv_neT (a := 2) c2 rfl; have n3 := lv_neT (a := 3) c3 rfl; have n4 := lv_neT (a := 4) c4 rfl; omega) (by decide) ?_
          refine zt_aload_n kX11_stone_126 rfl ?_
          refine zt_get (v := zr 2 0) kX11_stone_127 fRX11_48 rfl (by decide) rfl ?_
          refine zt_iload_n kX11_stone_130 rfl ?_
          obtain ⟨pp0, H⟩ := H
          refine zt_cV (as := [zi x1]) kX11_stone_131 sRX11_111 rfl (by decide) rfl (by simp) rfl (sX4_noteAt _ (by decide) pp0) (fun r h0 hq => ?_)
          obtain ⟨rfl, hh⟩ := hq
          replace hh := hh.symm
          subst hh
          exact zt_iret kX11_stone_134 rfl H
        · replace H := H.2 c
          refine zt_bipush (v := (-3)) kX11_stone_29 rfl ?_
          exact zt_iret kX11_stone_31 rfl H
      · replace H := H.2 c
        refine zt_iconst (v := (-1)) kX11_stone_16 rfl ?_
        exact zt_iret kX11_stone_17 rfl H

theorem kX11_mostLoad_0 : zD cX11_mostLoad 0 1 (.iload_n 1) 1 := by decide +kernel
theorem kX11_mostLoad_1 : zD cX11_mostLoad 1 4 (.invokestatic 150) 3 := by decide +kernel
theorem kX11_mostLoad_4 : zB cX11_mostLoad 4 7 9 (.ifCond .ne 5) 5 := by decide +kernel
theorem kX11_mostLoad_7 : zD cX11_mostLoad 7 8 (.iconst (-1)) 1 := by decide +kernel
theorem kX11_mostLoad_8 : zD cX11_mostLoad 8 9 (.ireturn) 1 := by decide +kernel
theorem kX11_mostLoad_9 : zD cX11_mostLoad 9 10 (.aload_n 0) 1 := by decide +kernel
theorem kX11_mostLoad_10 : zD cX11_mostLoad 10 13 (.getfield 48) 3 := by decide +kernel
theorem kX11_mostLoad_13 : zD cX11_mostLoad 13 16 (.invokevirtual 198) 3 := by decide +kernel
theorem kX11_mostLoad_16 : zD cX11_mostLoad 16 17 (.istore_n 2) 1 := by decide +kernel
theorem kX11_mostLoad_17 : zD cX11_mostLoad 17 18 (.iload_n 1) 1 := by decide +kernel
theorem kX11_mostLoad_18 : zD cX11_mostLoad 18 19 (.iconst 1) 1 := by decide +kernel
theorem kX11_mostLoad_19 : zB cX11_mostLoad 19 22 28 (.if_icmp .eq 9) 9 := by decide +kernel
theorem kX11_mostLoad_22 : zD cX11_mostLoad 22 23 (.iload_n 2) 1 := by decide +kernel
theorem kX11_mostLoad_23 : zD cX11_mostLoad 23 25 (.bipush (-4)) 2 := by decide +kernel
theorem kX11_mostLoad_25 : zB cX11_mostLoad 25 28 30 (.if_icmp .ne 5) 5 := by decide +kernel
theorem kX11_mostLoad_28 : zD cX11_mostLoad 28 29 (.iload_n 2) 1 := by decide +kernel
theorem kX11_mostLoad_29 : zD cX11_mostLoad 29 30 (.ireturn) 1 := by decide +kernel
theorem kX11_mostLoad_30 : zD cX11_mostLoad 30 31 (.aload_n 0) 1 := by decide +kernel
theorem kX11_mostLoad_31 : zD cX11_mostLoad 31 34 (.getfield 48) 3 := by decide +kernel
theorem kX11_mostLoad_34 : zD cX11_mostLoad 34 37 (.getfield 108) 3 := by decide +kernel
theorem kX11_mostLoad_37 : zD cX11_mostLoad 37 38 (.iload_n 2) 1 := by decide +kernel
theorem kX11_mostLoad_38 : zD cX11_mostLoad 38 39 (.iaload) 1 := by decide +kernel
theorem kX11_mostLoad_39 : zD cX11_mostLoad 39 40 (.ireturn) 1 := by decide +kernel
set_option maxRecDepth 10000 in
theorem wX11_mostLoad_0 {G : ZG} {d : Nat} {h : ZH} {Q : Option ZV → ZH → Prop} {x1 : Int32} 
  (H : ((0 ≤ x1 ∧ x1 ≤ 1) → zC G (d + 5) mX4_heaviestLaden [zr 2 0] h (fun r2 h1 => ∃ y3 : Int32, r2 = some (zi y3) ∧ (x1 = 1 → Q (some (zi y3)) h1) ∧ (¬ x1 = 1 → (¬ y3 = (-4) → vp_in y3 12 ∧ Q (some (zi (h1.1 15 0 y3.toNatClampNeg))) h1) ∧ (y3 = (-4) → Q (some (zi y3)) h1)))) ∧ (¬ (0 ≤ x1 ∧ x1 ≤ 1) → Q (some (zi (-1))) h)) :
  zT G (d + 6) mX11_mostLoad 0 [zr 0 0, zi x1, zu] [] h Q := by
  refine zt_iload_n kX11_mostLoad_0 rfl ?_
  refine zt_cS (as := [zi x1]) kX11_mostLoad_1 sRX11_150 rfl (by simp) rfl (sX11_isEither _  ) (fun r h0 hq => ?_)
  obtain ⟨rfl, hh⟩ := hq
  replace hh := hh.symm
  subst hh
  refine zt_ifb_ne kX11_mostLoad_4 (fun c => ?_) (fun c => ?_)
  · replace H := H.1 c
    refine zt_aload_n kX11_mostLoad_9 rfl ?_
    refine zt_get (v := zr 2 0) kX11_mostLoad_10 fRX11_48 rfl (by decide) rfl ?_
    refine zt_cV (as := []) kX11_mostLoad_13 sRX11_198 rfl (by decide) rfl (by simp) rfl H (fun r2 h1 H => ?_)
    obtain ⟨y3, rfl, H⟩ := H
    refine zt_istore_n (L' := [zr 0 0, zi x1, zi y3]) kX11_mostLoad_16 (by decide) rfl ?_
    refine zt_iload_n kX11_mostLoad_17 rfl ?_
    refine zt_iconst (v := 1) kX11_mostLoad_18 rfl ?_
    refine zt_icmp_eq kX11_mostLoad_19 (fun c => ?_) (fun c => ?_)
    · replace H := H.1 c
      refine zt_iload_n kX11_mostLoad_28 rfl ?_
      exact zt_iret kX11_mostLoad_29 rfl H
    · replace H := H.2 c
      refine zt_iload_n kX11_mostLoad_22 rfl ?_
      refine zt_bipush (v := (-4)) kX11_mostLoad_23 rfl ?_
      refine zt_icmp_ne kX11_mostLoad_25 (fun c => ?_) (fun c => ?_)
      · replace H := H.1 c
        refine zt_aload_n kX11_mostLoad_30 rfl ?_
        refine zt_get (v := zr 2 0) kX11_mostLoad_31 fRX11_48 rfl (by decide) rfl ?_
        refine zt_get (v := zr 15 0) kX11_mostLoad_34 fRX11_108 rfl (by decide) rfl ?_
        refine zt_iload_n kX11_mostLoad_37 rfl ?_
        obtain ⟨hv, H⟩ := H
        refine zt_iald kX11_mostLoad_38 rfl (by decide) hv ?_
        exact zt_iret kX11_mostLoad_39 rfl H
      · replace H := H.2 c
        refine zt_iload_n kX11_mostLoad_28 rfl ?_
        exact zt_iret kX11_mostLoad_29 rfl H
  · replace H := H.2 c
    refine zt_iconst (v := (-1)) kX11_mostLoad_7 rfl ?_
    exact zt_iret kX11_mostLoad_8 rfl H

theorem kX11_more_0 : zD cX11_more 0 1 (.aload_n 0) 1 := by decide +kernel
theorem kX11_more_1 : zD cX11_more 1 2 (.iload_n 1) 1 := by decide +kernel
theorem kX11_more_2 : zD cX11_more 2 5 (.invokevirtual 127) 3 := by decide +kernel
theorem kX11_more_5 : zD cX11_more 5 6 (.istore_n 2) 1 := by decide +kernel
theorem kX11_more_6 : zD cX11_more 6 7 (.iload_n 2) 1 := by decide +kernel
theorem kX11_more_7 : zB cX11_more 7 10 12 (.ifCond .eq 5) 5 := by decide +kernel
theorem kX11_more_10 : zD cX11_more 10 11 (.iload_n 2) 1 := by decide +kernel
theorem kX11_more_11 : zD cX11_more 11 12 (.ireturn) 1 := by decide +kernel
theorem kX11_more_12 : zD cX11_more 12 13 (.aload_n 0) 1 := by decide +kernel
theorem kX11_more_13 : zD cX11_more 13 16 (.getfield 48) 3 := by decide +kernel
theorem kX11_more_16 : zD cX11_more 16 19 (.invokevirtual 93) 3 := by decide +kernel
theorem kX11_more_19 : zD cX11_more 19 20 (.iconst 0) 1 := by decide +kernel
theorem kX11_more_20 : zD cX11_more 20 22 (.bipush 99) 2 := by decide +kernel
theorem kX11_more_22 : zD cX11_more 22 23 (.aload_n 0) 1 := by decide +kernel
theorem kX11_more_23 : zD cX11_more 23 26 (.getfield 48) 3 := by decide +kernel
theorem kX11_more_26 : zD cX11_more 26 29 (.getfield 105) 3 := by decide +kernel
theorem kX11_more_29 : zD cX11_more 29 30 (.iload_n 1) 1 := by decide +kernel
theorem kX11_more_30 : zD cX11_more 30 31 (.iaload) 1 := by decide +kernel
theorem kX11_more_31 : zD cX11_more 31 32 (.aload_n 0) 1 := by decide +kernel
theorem kX11_more_32 : zD cX11_more 32 35 (.getfield 48) 3 := by decide +kernel
theorem kX11_more_35 : zD cX11_more 35 38 (.getfield 108) 3 := by decide +kernel
theorem kX11_more_38 : zD cX11_more 38 39 (.iload_n 1) 1 := by decide +kernel
theorem kX11_more_39 : zD cX11_more 39 40 (.iaload) 1 := by decide +kernel
theorem kX11_more_40 : zD cX11_more 40 41 (.isub) 1 := by decide +kernel
theorem kX11_more_41 : zD cX11_more 41 44 (.invokestatic 213) 3 := by decide +kernel
theorem kX11_more_44 : zD cX11_more 44 47 (.invokestatic 219) 3 := by decide +kernel
theorem kX11_more_47 : zD cX11_more 47 48 (.ireturn) 1 := by decide +kernel
set_option maxRecDepth 10000 in
theorem wX11_more_0 {G : ZG} {d : Nat} {h : ZH} {Q : Option ZV → ZH → Prop} {x1 : Int32} 
  (H : ((stRefI h x1) = 0 → zC G (d + 4) mX4_weighAll [zr 2 0] h (fun r2 h1 => r2 = none ∧ vp_in x1 12 ∧ vp_in x1 12 ∧ Q (some (zi (zmx (0 : Int32) (zmn (99 : Int32) ((h1.1 13 0 x1.toNatClampNeg) - (h1.1 15 0 x1.toNatClampNeg)))))) h1)) ∧ (¬ (stRefI h x1) = 0 → Q (some (zi (stRefI h x1))) h)) :
  zT G (d + 5) mX11_more 0 [zr 0 0, zi x1, zu] [] h Q := by
  refine zt_aload_n kX11_more_0 rfl ?_
  refine zt_iload_n kX11_more_1 rfl ?_
  refine zt_cV (as := [zi x1]) kX11_more_2 sRX11_127 rfl (by decide) rfl (by simp) rfl (sX11_stoneRefused _  ) (fun r h0 hq => ?_)
  obtain ⟨rfl, hh⟩ := hq
  replace hh := hh.symm
  subst hh
  refine zt_istore_n (L' := [zr 0 0, zi x1, zi (stRefI h x1)]) kX11_more_5 (by decide) rfl ?_
  refine zt_iload_n kX11_more_6 rfl ?_
  refine zt_if_eq kX11_more_7 (fun c => ?_) (fun c => ?_)
  · replace H := H.1 c
    refine zt_aload_n kX11_more_12 rfl ?_
    refine zt_get (v := zr 2 0) kX11_more_13 fRX11_48 rfl (by decide) rfl ?_
    refine zt_cV (as := []) kX11_more_16 sRX11_93 rfl (by decide) rfl (by simp) rfl H (fun r2 h1 H => ?_)
    obtain ⟨rfl, H⟩ := H
    refine zt_iconst (v := 0) kX11_more_19 rfl ?_
    refine zt_bipush (v := 99) kX11_more_20 rfl ?_
    refine zt_aload_n kX11_more_22 rfl ?_
    refine zt_get (v := zr 2 0) kX11_more_23 fRX11_48 rfl (by decide) rfl ?_
    refine zt_get (v := zr 13 0) kX11_more_26 fRX11_105 rfl (by decide) rfl ?_
    refine zt_iload_n kX11_more_29 rfl ?_
    obtain ⟨hv, H⟩ := H
    refine zt_iald kX11_more_30 rfl (by decide) hv ?_
    refine zt_aload_n kX11_more_31 rfl ?_
    refine zt_get (v := zr 2 0) kX11_more_32 fRX11_48 rfl (by decide) rfl ?_
    refine zt_get (v := zr 15 0) kX11_more_35 fRX11_108 rfl (by decide) rfl ?_
    refine zt_iload_n kX11_more_38 rfl ?_
    obtain ⟨hv, H⟩ := H
    refine zt_iald kX11_more_39 rfl (by decide) hv ?_
    refine zt_isub kX11_more_40 ?_
    refine zt_mmin kX11_more_41 qRX11_213 (by simp) ?_
    refine zt_mmax kX11_more_44 qRX11_219 (by simp) ?_
    exact zt_iret kX11_more_47 rfl H
  · replace H := H.2 c
    refine zt_iload_n kX11_more_10 rfl ?_
    exact zt_iret kX11_more_11 rfl H

theorem kX11_lean_0 : zD cX11_lean 0 1 (.iload_n 1) 1 := by decide +kernel
theorem kX11_lean_1 : zD cX11_lean 1 4 (.invokestatic 150) 3 := by decide +kernel
theorem kX11_lean_4 : zB cX11_lean 4 7 10 (.ifCond .ne 6) 6 := by decide +kernel
theorem kX11_lean_7 : zD cX11_lean 7 9 (.ldc 222) 2 := by decide +kernel
theorem kX11_lean_9 : zD cX11_lean 9 10 (.ireturn) 1 := by decide +kernel
theorem kX11_lean_10 : zD cX11_lean 10 11 (.iload_n 1) 1 := by decide +kernel
theorem kX11_lean_11 : zB cX11_lean 11 14 24 (.ifCond .ne 13) 13 := by decide +kernel
theorem kX11_lean_14 : zD cX11_lean 14 15 (.aload_n 0) 1 := by decide +kernel
theorem kX11_lean_15 : zD cX11_lean 15 18 (.getfield 48) 3 := by decide +kernel
theorem kX11_lean_18 : zD cX11_lean 18 21 (.invokevirtual 223) 3 := by decide +kernel
theorem kX11_lean_21 : zB cX11_lean 21 24 31 (.goto 10) 10 := by decide +kernel
theorem kX11_lean_24 : zD cX11_lean 24 25 (.aload_n 0) 1 := by decide +kernel
theorem kX11_lean_25 : zD cX11_lean 25 28 (.getfield 48) 3 := by decide +kernel
theorem kX11_lean_28 : zD cX11_lean 28 31 (.invokevirtual 226) 3 := by decide +kernel
theorem kX11_lean_31 : zD cX11_lean 31 32 (.ireturn) 1 := by decide +kernel
set_option maxRecDepth 10000 in
theorem wX11_lean_0 {G : ZG} {d : Nat} {h : ZH} {Q : Option ZV → ZH → Prop} {x1 : Int32} 
  (H : ((0 ≤ x1 ∧ x1 ≤ 1) → (¬ x1 = 0 → zC G (d + 4) mX4_heaviestColumn [zr 2 0] h (fun r2 h1 => ∃ y3 : Int32, r2 = some (zi y3) ∧ Q (some (zi y3)) h1)) ∧ (x1 = 0 → zC G (d + 4) mX4_leftOverRight [zr 2 0] h (fun r5 h4 => ∃ y6 : Int32, r5 = some (zi y6) ∧ Q (some (zi y6)) h4))) ∧ (¬ (0 ≤ x1 ∧ x1 ≤ 1) → Q (some (zi 1000000001)) h)) :
  zT G (d + 5) mX11_lean 0 [zr 0 0, zi x1] [] h Q := by
  refine zt_iload_n kX11_lean_0 rfl ?_
  refine zt_cS (as := [zi x1]) kX11_lean_1 sRX11_150 rfl (by simp) rfl (sX11_isEither _  ) (fun r h0 hq => ?_)
  obtain ⟨rfl, hh⟩ := hq
  replace hh := hh.symm
  subst hh
  refine zt_ifb_ne kX11_lean_4 (fun c => ?_) (fun c => ?_)
  · replace H := H.1 c
    refine zt_iload_n kX11_lean_10 rfl ?_
    refine zt_if_ne kX11_lean_11 (fun c => ?_) (fun c => ?_)
    · replace H := H.1 c
      refine zt_aload_n kX11_lean_24 rfl ?_
      refine zt_get (v := zr 2 0) kX11_lean_25 fRX11_48 rfl (by decide) rfl ?_
      refine zt_cV (as := []) kX11_lean_28 sRX11_226 rfl (by decide) rfl (by simp) rfl H (fun r2 h1 H => ?_)
      obtain ⟨y3, rfl, H⟩ := H
      exact zt_iret kX11_lean_31 rfl H
    · replace H := H.2 c
      refine zt_aload_n kX11_lean_14 rfl ?_
      refine zt_get (v := zr 2 0) kX11_lean_15 fRX11_48 rfl (by decide) rfl ?_
      refine zt_cV (as := []) kX11_lean_18 sRX11_223 rfl (by decide) rfl (by simp) rfl H (fun r5 h4 H => ?_)
      obtain ⟨y6, rfl, H⟩ := H
      refine zt_goto kX11_lean_21 ?_
      exact zt_iret kX11_lean_31 rfl H
  · replace H := H.2 c
    refine zt_ldc (v := 1000000001) kX11_lean_7 wm_644 ?_
    exact zt_iret kX11_lean_9 rfl H

theorem kX11_highest_0 : zD cX11_highest 0 1 (.iload_n 1) 1 := by decide +kernel
theorem kX11_highest_1 : zD cX11_highest 1 4 (.invokestatic 150) 3 := by decide +kernel
theorem kX11_highest_4 : zB cX11_highest 4 7 9 (.ifCond .ne 5) 5 := by decide +kernel
theorem kX11_highest_7 : zD cX11_highest 7 8 (.iconst (-1)) 1 := by decide +kernel
theorem kX11_highest_8 : zD cX11_highest 8 9 (.ireturn) 1 := by decide +kernel
theorem kX11_highest_9 : zD cX11_highest 9 10 (.iload_n 1) 1 := by decide +kernel
theorem kX11_highest_10 : zB cX11_highest 10 13 23 (.ifCond .ne 13) 13 := by decide +kernel
theorem kX11_highest_13 : zD cX11_highest 13 14 (.aload_n 0) 1 := by decide +kernel
theorem kX11_highest_14 : zD cX11_highest 14 17 (.getfield 48) 3 := by decide +kernel
theorem kX11_highest_17 : zD cX11_highest 17 20 (.invokevirtual 260) 3 := by decide +kernel
theorem kX11_highest_20 : zB cX11_highest 20 23 30 (.goto 10) 10 := by decide +kernel
theorem kX11_highest_23 : zD cX11_highest 23 24 (.aload_n 0) 1 := by decide +kernel
theorem kX11_highest_24 : zD cX11_highest 24 27 (.getfield 48) 3 := by decide +kernel
theorem kX11_highest_27 : zD cX11_highest 27 30 (.invokevirtual 263) 3 := by decide +kernel
theorem kX11_highest_30 : zD cX11_highest 30 31 (.ireturn) 1 := by decide +kernel
set_option maxRecDepth 10000 in
theorem wX11_highest_0 {G : ZG} {d : Nat} {h : ZH} {Q : Option ZV → ZH → Prop} {x1 : Int32} 
  (H : ((0 ≤ x1 ∧ x1 ≤ 1) → (¬ x1 = 0 → zC G (d + 4) mX4_inHighestRow [zr 2 0] h (fun r2 h1 => ∃ y3 : Int32, r2 = some (zi y3) ∧ Q (some (zi y3)) h1)) ∧ (x1 = 0 → zC G (d + 4) mX4_highestRow [zr 2 0] h (fun r5 h4 => ∃ y6 : Int32, r5 = some (zi y6) ∧ Q (some (zi y6)) h4))) ∧ (¬ (0 ≤ x1 ∧ x1 ≤ 1) → Q (some (zi (-1))) h)) :
  zT G (d + 5) mX11_highest 0 [zr 0 0, zi x1] [] h Q := by
  refine zt_iload_n kX11_highest_0 rfl ?_
  refine zt_cS (as := [zi x1]) kX11_highest_1 sRX11_150 rfl (by simp) rfl (sX11_isEither _  ) (fun r h0 hq => ?_)
  obtain ⟨rfl, hh⟩ := hq
  replace hh := hh.symm
  subst hh
  refine zt_ifb_ne kX11_highest_4 (fun c => ?_) (fun c => ?_)
  · replace H := H.1 c
    refine zt_iload_n kX11_highest_9 rfl ?_
    refine zt_if_ne kX11_highest_10 (fun c => ?_) (fun c => ?_)
    · replace H := H.1 c
      refine zt_aload_n kX11_highest_23 rfl ?_
      refine zt_get (v := zr 2 0) kX11_highest_24 fRX11_48 rfl (by decide) rfl ?_
      refine zt_cV (as := []) kX11_highest_27 sRX11_263 rfl (by decide) rfl (by simp) rfl H (fun r2 h1 H => ?_)
      obtain ⟨y3, rfl, H⟩ := H
      exact zt_iret kX11_highest_30 rfl H
    · replace H := H.2 c
      refine zt_aload_n kX11_highest_13 rfl ?_
      refine zt_get (v := zr 2 0) kX11_highest_14 fRX11_48 rfl (by decide) rfl ?_
      refine zt_cV (as := []) kX11_highest_17 sRX11_260 rfl (by decide) rfl (by simp) rfl H (fun r5 h4 H => ?_)
      obtain ⟨y6, rfl, H⟩ := H
      refine zt_goto kX11_highest_20 ?_
      exact zt_iret kX11_highest_30 rfl H
  · replace H := H.2 c
    refine zt_iconst (v := (-1)) kX11_highest_7 rfl ?_
    exact zt_iret kX11_highest_8 rfl H

theorem kX11_count_0 : zD cX11_count 0 1 (.iload_n 1) 1 := by decide +kernel
theorem kX11_count_1 : decode cX11_count 1 = .ok (.tableswitch 103 0 5 #[39, 50, 58, 66, 81, 89], 39) := by decide +kernel
theorem kX11_count_40 : zD cX11_count 40 41 (.aload_n 0) 1 := by decide +kernel
theorem kX11_count_41 : zD cX11_count 41 44 (.getfield 48) 3 := by decide +kernel
theorem kX11_count_44 : zD cX11_count 44 47 (.getfield 136) 3 := by decide +kernel
theorem kX11_count_47 : zD cX11_count 47 50 (.invokestatic 145) 3 := by decide +kernel
theorem kX11_count_50 : zD cX11_count 50 51 (.ireturn) 1 := by decide +kernel
theorem kX11_count_51 : zD cX11_count 51 52 (.aload_n 0) 1 := by decide +kernel
theorem kX11_count_52 : zD cX11_count 52 55 (.getfield 48) 3 := by decide +kernel
theorem kX11_count_55 : zD cX11_count 55 58 (.getfield 136) 3 := by decide +kernel
theorem kX11_count_58 : zD cX11_count 58 59 (.ireturn) 1 := by decide +kernel
theorem kX11_count_59 : zD cX11_count 59 60 (.aload_n 0) 1 := by decide +kernel
theorem kX11_count_60 : zD cX11_count 60 63 (.getfield 48) 3 := by decide +kernel
theorem kX11_count_63 : zD cX11_count 63 66 (.getfield 273) 3 := by decide +kernel
theorem kX11_count_66 : zD cX11_count 66 67 (.ireturn) 1 := by decide +kernel
theorem kX11_count_67 : zD cX11_count 67 68 (.aload_n 0) 1 := by decide +kernel
theorem kX11_count_68 : zD cX11_count 68 71 (.getfield 48) 3 := by decide +kernel
theorem kX11_count_71 : zD cX11_count 71 72 (.aload_n 0) 1 := by decide +kernel
theorem kX11_count_72 : zD cX11_count 72 75 (.getfield 48) 3 := by decide +kernel
theorem kX11_count_75 : zD cX11_count 75 78 (.getfield 136) 3 := by decide +kernel
theorem kX11_count_78 : zD cX11_count 78 81 (.invokevirtual 276) 3 := by decide +kernel
theorem kX11_count_81 : zD cX11_count 81 82 (.ireturn) 1 := by decide +kernel
theorem kX11_count_82 : zD cX11_count 82 83 (.aload_n 0) 1 := by decide +kernel
theorem kX11_count_83 : zD cX11_count 83 86 (.getfield 48) 3 := by decide +kernel
theorem kX11_count_86 : zD cX11_count 86 89 (.invokevirtual 279) 3 := by decide +kernel
theorem kX11_count_89 : zD cX11_count 89 90 (.ireturn) 1 := by decide +kernel
theorem kX11_count_90 : zD cX11_count 90 91 (.aload_n 0) 1 := by decide +kernel
theorem kX11_count_91 : zD cX11_count 91 94 (.getfield 48) 3 := by decide +kernel
theorem kX11_count_94 : zD cX11_count 94 97 (.getfield 136) 3 := by decide +kernel
theorem kX11_count_97 : zD cX11_count 97 99 (.bipush 15) 2 := by decide +kernel
theorem kX11_count_99 : zD cX11_count 99 100 (.iand) 1 := by decide +kernel
theorem kX11_count_100 : zD cX11_count 100 103 (.invokestatic 145) 3 := by decide +kernel
theorem kX11_count_103 : zD cX11_count 103 104 (.ireturn) 1 := by decide +kernel
theorem kX11_count_104 : zD cX11_count 104 105 (.iconst (-1)) 1 := by decide +kernel
theorem kX11_count_105 : zD cX11_count 105 106 (.ireturn) 1 := by decide +kernel
set_option maxRecDepth 10000 in
theorem wX11_count_0 {G : ZG} {d : Nat} {h : ZH} {Q : Option ZV → ZH → Prop} {x1 : Int32} 
  (H : (x1 = 0 → Q (some (zi (bcI (h.1 2 0 6)))) h) ∧ (¬ x1 = 0 → (x1 = 1 → Q (some (zi (h.1 2 0 6))) h) ∧ (¬ x1 = 1 → (x1 = 2 → Q (some (zi (h.1 2 0 7))) h) ∧ (¬ x1 = 2 → (x1 = 3 → zC G (d + 5) mX4_weightOf [zr 2 0, zi (h.1 2 0 6)] h (fun r2 h1 => ∃ y3 : Int32, r2 = some (zi y3) ∧ Q (some (zi y3)) h1)) ∧ (¬ x1 = 3 → (x1 = 4 → zC G (d + 5) mX4_allLoads [zr 2 0] h (fun r5 h4 => ∃ y6 : Int32, r5 = some (zi y6) ∧ Q (some (zi y6)) h4)) ∧ (¬ x1 = 4 → (x1 = 5 → Q (some (zi (bcI ((h.1 2 0 6) &&& 15)))) h) ∧ (¬ x1 = 5 → Q (some (zi (-1))) h))))))) :
  zT G (d + 6) mX11_count 0 [zr 0 0, zi x1] [] h Q := by
  refine zt_iload_n kX11_count_0 rfl ?_
  rcases Classical.em (x1 = 0) with c0 | c0
  · replace H := H.1 c0
    refine zt_tabIn (tgt := 40) kX11_count_1 (by rw [c0]; decide) (by rw [c0]; decide) (by rw [c0]; rfl) (by decide) ?_
    refine zt_aload_n kX11_count_40 rfl ?_
    refine zt_get (v := zr 2 0) kX11_count_41 fRX11_48 rfl (by decide) rfl ?_
    refine zt_get (v := zi (h.1 2 0 6)) kX11_count_44 fRX11_136 rfl (by decide) rfl ?_
    refine zt_cS (as := [zi (h.1 2 0 6)]) kX11_count_47 sRX11_145 rfl (by simp) rfl (sJ6_bitCount_0f7a4 _  ) (fun r h0 hq => ?_)
    obtain ⟨rfl, hh⟩ := hq
    replace hh := hh.symm
    subst hh
    exact zt_iret kX11_count_50 rfl H
  replace H := H.2 c0
  rcases Classical.em (x1 = 1) with c1 | c1
  · replace H := H.1 c1
    refine zt_tabIn (tgt := 51) kX11_count_1 (by rw [c1]; decide) (by rw [c1]; decide) (by rw [c1]; rfl) (by decide) ?_
    refine zt_aload_n kX11_count_51 rfl ?_
    refine zt_get (v := zr 2 0) kX11_count_52 fRX11_48 rfl (by decide) rfl ?_
    refine zt_get (v := zi (h.1 2 0 6)) kX11_count_55 fRX11_136 rfl (by decide) rfl ?_
    exact zt_iret kX11_count_58 rfl H
  replace H := H.2 c1
  rcases Classical.em (x1 = 2) with c2 | c2
  · replace H := H.1 c2
    refine zt_tabIn (tgt := 59) kX11_count_1 (by rw [c2]; decide) (by rw [c2]; decide) (by rw [c2]; rfl) (by decide) ?_
    refine zt_aload_n kX11_count_59 rfl ?_
    refine zt_get (v := zr 2 0) kX11_count_60 fRX11_48 rfl (by decide) rfl ?_
    refine zt_get (v := zi (h.1 2 0 7)) kX11_count_63 fRX11_273 rfl (by decide) rfl ?_
    exact zt_iret kX11_count_66 rfl H
  replace H := H.2 c2
  rcases Classical.em (x1 = 3) with c3 | c3
  · replace H := H.1 c3
    refine zt_tabIn (tgt := 67) kX11_count_1 (by rw [c3]; decide) (by rw [c3]; decide) (by rw [c3]; rfl) (by decide) ?_
    refine zt_aload_n kX11_count_67 rfl ?_
    refine zt_get (v := zr 2 0) kX11_count_68 fRX11_48 rfl (by decide) rfl ?_
    refine zt_aload_n kX11_count_71 rfl ?_
    refine zt_get (v := zr 2 0) kX11_count_72 fRX11_48 rfl (by decide) rfl ?_
    refine zt_get (v := zi (h.1 2 0 6)) kX11_count_75 fRX11_136 rfl (by decide) rfl ?_
    refine zt_cV (as := [zi (h.1 2 0 6)]) kX11_count_78 sRX11_276 rfl (by decide) rfl (by simp) rfl H (fun r2 h1 H => ?_)
    obtain ⟨y3, rfl, H⟩ := H
    exact zt_iret kX11_count_81 rfl H
  replace H := H.2 c3
  rcases Classical.em (x1 = 4) with c4 | c4
  · replace H := H.1 c4
    refine zt_tabIn (tgt := 82) kX11_count_1 (by rw [c4]; decide) (by rw [c4]; decide) (by rw [c4]; rfl) (by decide) ?_
    refine zt_aload_n kX11_count_82 rfl ?_
    refine zt_get (v := zr 2 0) kX11_count_83 fRX11_48 rfl (by decide) rfl ?_
    refine zt_cV (as := []) kX11_count_86 sRX11_279 rfl (by decide) rfl (by simp) rfl H (fun r5 h4 H => ?_)
    obtain ⟨y6, rfl, H⟩ := H
    exact zt_iret kX11_count_89 rfl H
  replace H := H.2 c4
  rcases Classical.em (x1 = 5) with c5 | c5
  · replace H := H.1 c5
    refine zt_tabIn (tgt := 90) kX11_count_1 (by rw [c5]; decide) (by rw [c5]; decide) (by rw [c5]; rfl) (by decide) ?_
    refine zt_aload_n kX11_count_90 rfl ?_
    refine zt_get (v := zr 2 0) kX11_count_91 fRX11_48 rfl (by decide) rfl ?_
    refine zt_get (v := zi (h.1 2 0 6)) kX11_count_94 fRX11_136 rfl (by decide) rfl ?_
    refine zt_bipush (v := 15) kX11_count_97 rfl ?_
    refine zt_iand kX11_count_99 ?_
    refine zt_cS (as := [zi ((h.1 2 0 6) &&& 15)]) kX11_count_100 sRX11_145 rfl (by simp) rfl (sJ6_bitCount_0f7a4 _  ) (fun r h0 hq => ?_)
    obtain ⟨rfl, hh⟩ := hq
    replace hh := hh.symm
    subst hh
    exact zt_iret kX11_count_103 rfl H
  replace H := H.2 c5
  refine zt_tabOut (tgt := 104) kX11_count_1 (by have n0 := lv_neT (a := 0) c0 rfl; have n1 := lv_neT (a := 1) c1 rfl; have n2 := lv_neT (a := 2) c2 rfl; have n3 := lv_neT (a := 3) c3 rfl; have n4 := lv_neT (a := 4) c4 rfl; have n5 := lv_neT (a := 5) c5 rfl; omega) (by decide) ?_
  refine zt_iconst (v := (-1)) kX11_count_104 rfl ?_
  exact zt_iret kX11_count_105 rfl H

theorem kX11_cost_0 : zD cX11_cost 0 1 (.aload_n 0) 1 := by decide +kernel
theorem kX11_cost_1 : zD cX11_cost 1 2 (.iload_n 1) 1 := by decide +kernel
theorem kX11_cost_2 : zD cX11_cost 2 5 (.invokevirtual 114) 3 := by decide +kernel
theorem kX11_cost_5 : zD cX11_cost 5 6 (.istore_n 2) 1 := by decide +kernel
theorem kX11_cost_6 : zD cX11_cost 6 7 (.iload_n 2) 1 := by decide +kernel
theorem kX11_cost_7 : zB cX11_cost 7 10 12 (.ifCond .eq 5) 5 := by decide +kernel
theorem kX11_cost_10 : zD cX11_cost 10 11 (.iload_n 2) 1 := by decide +kernel
theorem kX11_cost_11 : zD cX11_cost 11 12 (.ireturn) 1 := by decide +kernel
theorem kX11_cost_12 : zD cX11_cost 12 13 (.aload_n 0) 1 := by decide +kernel
theorem kX11_cost_13 : zD cX11_cost 13 16 (.getfield 62) 3 := by decide +kernel
theorem kX11_cost_16 : zD cX11_cost 16 17 (.iload_n 1) 1 := by decide +kernel
theorem kX11_cost_17 : zD cX11_cost 17 18 (.aaload) 1 := by decide +kernel
theorem kX11_cost_18 : zD cX11_cost 18 19 (.astore_n 3) 1 := by decide +kernel
theorem kX11_cost_19 : zD cX11_cost 19 20 (.aload_n 0) 1 := by decide +kernel
theorem kX11_cost_20 : zD cX11_cost 20 23 (.getfield 33) 3 := by decide +kernel
theorem kX11_cost_23 : zD cX11_cost 23 24 (.aload_n 3) 1 := by decide +kernel
theorem kX11_cost_24 : zD cX11_cost 24 27 (.getfield 117) 3 := by decide +kernel
theorem kX11_cost_27 : zD cX11_cost 27 28 (.aaload) 1 := by decide +kernel
theorem kX11_cost_28 : zD cX11_cost 28 29 (.aload_n 3) 1 := by decide +kernel
theorem kX11_cost_29 : zD cX11_cost 29 32 (.getfield 120) 3 := by decide +kernel
theorem kX11_cost_32 : zD cX11_cost 32 35 (.invokevirtual 335) 3 := by decide +kernel
theorem kX11_cost_35 : zD cX11_cost 35 36 (.ireturn) 1 := by decide +kernel
set_option maxRecDepth 10000 in
theorem wX11_cost_0 {G : ZG} {d : Nat} {h : ZH} {Q : Option ZV → ZH → Prop} {x1 : Int32} 
  (H : ((kindRefI h x1) = 0 → vp_in x1 8 ∧ vp_in (h.1 3 (x1.toNatClampNeg) 1) 8 ∧ zCX G (d + 3) RX11 335 mX10_price ((h.1 3 (x1.toNatClampNeg) 1).toNatClampNeg) [zi (h.1 3 (x1.toNatClampNeg) 2)] 1 h (fun r4 h3 => ∃ y5 : Int32, r4 = some (zi y5) ∧ Q (some (zi y5)) h3)) ∧ (¬ (kindRefI h x1) = 0 → Q (some (zi (kindRefI h x1))) h)) :
  zT G (d + 4) mX11_cost 0 [zr 0 0, zi x1, zu, zu] [] h Q := by
  refine zt_aload_n kX11_cost_0 rfl ?_
  refine zt_iload_n kX11_cost_1 rfl ?_
  refine zt_cV (as := [zi x1]) kX11_cost_2 sRX11_114 rfl (by decide) rfl (by simp) rfl (sX11_kindRefused _  ) (fun r h0 hq => ?_)
  obtain ⟨rfl, hh⟩ := hq
  replace hh := hh.symm
  subst hh
  refine zt_istore_n (L' := [zr 0 0, zi x1, zi (kindRefI h x1), zu]) kX11_cost_5 (by decide) rfl ?_
  refine zt_iload_n kX11_cost_6 rfl ?_
  refine zt_if_eq kX11_cost_7 (fun c => ?_) (fun c => ?_)
  · replace H := H.1 c
    refine zt_aload_n kX11_cost_12 rfl ?_
    refine zt_get (v := zr 22 0) kX11_cost_13 fRX11_62 rfl (by decide) rfl ?_
    refine zt_iload_n kX11_cost_16 rfl ?_
    obtain ⟨hv1, H⟩ := H
    refine zt_aaldH kX11_cost_17 hv1 ?_
    refine zt_astore_n (L' := [zr 0 0, zi x1, zi (kindRefI h x1), zr 3 (x1.toNatClampNeg)]) kX11_cost_18 (by decide) rfl ?_
    refine zt_aload_n kX11_cost_19 rfl ?_
    refine zt_get (v := zr 21 0) kX11_cost_20 fRX11_33 rfl (by decide) rfl ?_
    refine zt_aload_n kX11_cost_23 rfl ?_
    refine zt_get (v := zi (h.1 3 (x1.toNatClampNeg) 1)) kX11_cost_24 fRX11_117 rfl (zok3 hv1) rfl ?_
    obtain ⟨hv2, H⟩ := H
    refine zt_aaldS kX11_cost_27 hv2 ?_
    refine zt_aload_n kX11_cost_28 rfl ?_
    refine zt_get (v := zi (h.1 3 (x1.toNatClampNeg) 2)) kX11_cost_29 fRX11_120 rfl (zok3 hv1) rfl ?_
    refine zt_cX (as := [zi (h.1 3 (x1.toNatClampNeg) 2)]) kX11_cost_32 (i := ((h.1 3 (x1.toNatClampNeg) 1).toNatClampNeg)) H (zok4 hv2) rfl (by simp) rfl (fun r4 h3 H => ?_)
    obtain ⟨y5, rfl, H⟩ := H
    exact zt_iret kX11_cost_35 rfl H
  · replace H := H.2 c
    refine zt_iload_n kX11_cost_10 rfl ?_
    exact zt_iret kX11_cost_11 rfl H

theorem kX12_stone_0 : zD cX12_stone 0 1 (.iload_n 2) 1 := by decide +kernel
theorem kX12_stone_1 : zD cX12_stone 1 2 (.iconst 0) 1 := by decide +kernel
theorem kX12_stone_2 : zD cX12_stone 2 3 (.iconst 5) 1 := by decide +kernel
theorem kX12_stone_3 : zD cX12_stone 3 6 (.invokestatic 53) 3 := by decide +kernel
theorem kX12_stone_6 : zB cX12_stone 6 9 11 (.ifCond .ne 5) 5 := by decide +kernel
theorem kX12_stone_9 : zD cX12_stone 9 10 (.iconst (-1)) 1 := by decide +kernel
theorem kX12_stone_10 : zD cX12_stone 10 11 (.ireturn) 1 := by decide +kernel
theorem kX12_stone_11 : zD cX12_stone 11 12 (.aload_n 0) 1 := by decide +kernel
theorem kX12_stone_12 : zD cX12_stone 12 13 (.iload_n 1) 1 := by decide +kernel
theorem kX12_stone_13 : zD cX12_stone 13 16 (.invokevirtual 154) 3 := by decide +kernel
theorem kX12_stone_16 : zD cX12_stone 16 17 (.istore_n 3) 1 := by decide +kernel
theorem kX12_stone_17 : zD cX12_stone 17 18 (.iload_n 3) 1 := by decide +kernel
theorem kX12_stone_18 : zB cX12_stone 18 21 23 (.ifCond .eq 5) 5 := by decide +kernel
theorem kX12_stone_21 : zD cX12_stone 21 22 (.iload_n 3) 1 := by decide +kernel
theorem kX12_stone_22 : zD cX12_stone 22 23 (.ireturn) 1 := by decide +kernel
theorem kX12_stone_23 : zD cX12_stone 23 24 (.aload_n 0) 1 := by decide +kernel
theorem kX12_stone_24 : zD cX12_stone 24 25 (.aload_n 0) 1 := by decide +kernel
theorem kX12_stone_25 : zD cX12_stone 25 28 (.getfield 9) 3 := by decide +kernel
theorem kX12_stone_28 : zD cX12_stone 28 29 (.iconst 0) 1 := by decide +kernel
theorem kX12_stone_29 : zD cX12_stone 29 30 (.iaload) 1 := by decide +kernel
theorem kX12_stone_30 : zD cX12_stone 30 33 (.invokevirtual 94) 3 := by decide +kernel
theorem kX12_stone_33 : zD cX12_stone 33 34 (.iload_n 2) 1 := by decide +kernel
theorem kX12_stone_34 : decode cX12_stone 34 = .ok (.tableswitch 65 0 4 #[34, 40, 46, 52, 58], 34) := by decide +kernel
theorem kX12_stone_68 : zD cX12_stone 68 69 (.aload_n 0) 1 := by decide +kernel
theorem kX12_stone_69 : zD cX12_stone 69 70 (.iload_n 1) 1 := by decide +kernel
theorem kX12_stone_70 : zD cX12_stone 70 73 (.invokevirtual 65) 3 := by decide +kernel
theorem kX12_stone_73 : zD cX12_stone 73 74 (.ireturn) 1 := by decide +kernel
theorem kX12_stone_74 : zD cX12_stone 74 75 (.aload_n 0) 1 := by decide +kernel
theorem kX12_stone_75 : zD cX12_stone 75 76 (.iload_n 1) 1 := by decide +kernel
theorem kX12_stone_76 : zD cX12_stone 76 79 (.invokevirtual 61) 3 := by decide +kernel
theorem kX12_stone_79 : zD cX12_stone 79 80 (.ireturn) 1 := by decide +kernel
theorem kX12_stone_80 : zD cX12_stone 80 81 (.aload_n 0) 1 := by decide +kernel
theorem kX12_stone_81 : zD cX12_stone 81 82 (.iload_n 1) 1 := by decide +kernel
theorem kX12_stone_82 : zD cX12_stone 82 85 (.invokevirtual 87) 3 := by decide +kernel
theorem kX12_stone_85 : zD cX12_stone 85 86 (.ireturn) 1 := by decide +kernel
theorem kX12_stone_86 : zD cX12_stone 86 87 (.aload_n 0) 1 := by decide +kernel
theorem kX12_stone_87 : zD cX12_stone 87 88 (.iload_n 1) 1 := by decide +kernel
theorem kX12_stone_88 : zD cX12_stone 88 91 (.invokevirtual 101) 3 := by decide +kernel
theorem kX12_stone_91 : zD cX12_stone 91 92 (.ireturn) 1 := by decide +kernel
theorem kX12_stone_92 : zD cX12_stone 92 93 (.aload_n 0) 1 := by decide +kernel
theorem kX12_stone_93 : zD cX12_stone 93 96 (.getfield 19) 3 := by decide +kernel
theorem kX12_stone_96 : zD cX12_stone 96 97 (.iload_n 1) 1 := by decide +kernel
theorem kX12_stone_97 : zD cX12_stone 97 98 (.iaload) 1 := by decide +kernel
theorem kX12_stone_98 : zD cX12_stone 98 99 (.ireturn) 1 := by decide +kernel
theorem kX12_stone_99 : zD cX12_stone 99 100 (.aload_n 0) 1 := by decide +kernel
theorem kX12_stone_100 : zD cX12_stone 100 101 (.iload_n 1) 1 := by decide +kernel
theorem kX12_stone_101 : zD cX12_stone 101 104 (.invokevirtual 157) 3 := by decide +kernel
theorem kX12_stone_104 : zD cX12_stone 104 105 (.ireturn) 1 := by decide +kernel
set_option maxRecDepth 10000 in
theorem wX12_stone_0 {G : ZG} {d : Nat} {h : ZH} {Q : Option ZV → ZH → Prop} {x1 : Int32} {x2 : Int32} 
  (H : (((0 : Int32) ≤ x2 ∧ x2 ≤ (5 : Int32)) → ((wStoneI h x1) = 0 → zC G (d + 4) mX12_loads [zr 5 0, zi (h.1 30 0 0)] h (fun r2 h1 => r2 = none ∧ (x2 = 0 → vp_in x1 12 ∧ (Q (some (zi (kindI h1 x1))) h1)) ∧ (¬ x2 = 0 → (x2 = 1 → vp_in x1 12 ∧ (Q (some (zi (figI h1 x1))) h1)) ∧ (¬ x2 = 1 → (x2 = 2 → vp_in x1 12 ∧ (Q (some (zi (wgtI (kindI h1 x1) (figI h1 x1)))) h1)) ∧ (¬ x2 = 2 → (x2 = 3 → vp_in x1 12 ∧ (Q (some (zi (brsI (kindI h1 x1) (figI h1 x1)))) h1)) ∧ (¬ x2 = 3 → (x2 = 4 → vp_in x1 12 ∧ Q (some (zi (h1.1 33 0 x1.toNatClampNeg))) h1) ∧ (¬ x2 = 4 → vp_in x1 12 ∧ (Q (some (zi (noteI (wgtI (kindI h1 x1) (figI h1 x1)) (h1.1 33 0 x1.toNatClampNeg)))) h1)))))))) ∧ (¬ (wStoneI h x1) = 0 → Q (some (zi (wStoneI h x1))) h)) ∧ (¬ ((0 : Int32) ≤ x2 ∧ x2 ≤ (5 : Int32)) → Q (some (zi (-1))) h)) :
  zT G (d + 5) mX12_stone 0 [zr 5 0, zi x1, zi x2, zu] [] h Q := by
  refine zt_iload_n kX12_stone_0 rfl ?_
  refine zt_iconst (v := 0) kX12_stone_1 rfl ?_
  refine zt_iconst (v := 5) kX12_stone_2 rfl ?_
  refine zt_cS (as := [zi x2, zi 0, zi 5]) kX12_stone_3 sRX12_53 rfl (by simp) rfl (sX12_isIn _  ) (fun r h0 hq => ?_)
  obtain ⟨rfl, hh⟩ := hq
  replace hh := hh.symm
  subst hh
  refine zt_ifb_ne kX12_stone_6 (fun c => ?_) (fun c => ?_)
  · replace H := H.1 c
    refine zt_aload_n kX12_stone_11 rfl ?_
    refine zt_iload_n kX12_stone_12 rfl ?_
    refine zt_cV (as := [zi x1]) kX12_stone_13 sRX12_154 rfl (by decide) rfl (by simp) rfl (sX12_wrongStone _  ) (fun r h0 hq => ?_)
    obtain ⟨rfl, hh⟩ := hq
    replace hh := hh.symm
    subst hh
    refine zt_istore_n (L' := [zr 5 0, zi x1, zi x2, zi (wStoneI h x1)]) kX12_stone_16 (by decide) rfl ?_
    refine zt_iload_n kX12_stone_17 rfl ?_
    refine zt_if_eq kX12_stone_18 (fun c => ?_) (fun c => ?_)
    · replace H := H.1 c
      refine zt_aload_n kX12_stone_23 rfl ?_
      refine zt_aload_n kX12_stone_24 rfl ?_
      refine zt_get (v := zr 30 0) kX12_stone_25 fRX12_9 rfl (by decide) rfl ?_
      refine zt_iconst (v := 0) kX12_stone_28 rfl ?_
      refine zt_ialdc 0 rfl kX12_stone_29 rfl (by decide) (zvp_dec (by decide)) ?_
      refine zt_cV (as := [zi (h.1 30 0 0)]) kX12_stone_30 sRX12_94 rfl (by decide) rfl (by simp) rfl H (fun r2 h1 H => ?_)
      obtain ⟨rfl, H⟩ := H
      refine zt_iload_n kX12_stone_33 rfl ?_
      rcases Classical.em (x2 = 0) with c0 | c0
      · replace H := H.1 c0
        refine zt_tabIn (tgt := 68) kX12_stone_34 (by rw [c0]; decide) (by rw [c0]; decide) (by rw [c0]; rfl) (by decide) ?_
        refine zt_aload_n kX12_stone_68 rfl ?_
        refine zt_iload_n kX12_stone_69 rfl ?_
        obtain ⟨pp0, H⟩ := H
        refine zt_cV (as := [zi x1]) kX12_stone_70 sRX12_65 rfl (by decide) rfl (by simp) rfl (sX12_kind _  pp0) (fun r h0 hq => ?_)
        obtain ⟨rfl, hh⟩ := hq
        replace hh := hh.symm
        subst hh
        exact zt_iret kX12_stone_73 rfl H
      replace H := H.2 c0
      rcases Classical.em (x2 = 1) with c1 | c1
      · replace H := H.1 c1
        refine zt_tabIn (tgt := 74) kX12_stone_34 (by rw [c1]; decide) (by rw [c1]; decide) (by rw [c1]; rfl) (by decide) ?_
        refine zt_aload_n kX12_stone_74 rfl ?_
        refine zt_iload_n kX12_stone_75 rfl ?_
        obtain ⟨pp0, H⟩ := H
        refine zt_cV (as := [zi x1]) kX12_stone_76 sRX12_61 rfl (by decide) rfl (by simp) rfl (sX12_figure _  pp0) (fun r h0 hq => ?_)
        obtain ⟨rfl, hh⟩ := hq
        replace hh := hh.symm
        subst hh
        exact zt_iret kX12_stone_79 rfl H
      replace H := H.2 c1
      rcases Classical.em (x2 = 2) with c2 | c2
      · replace H := H.1 c2
        refine zt_tabIn (tgt := 80) kX12_stone_34 (by rw [c2]; decide) (by rw [c2]; decide) (by rw [c2]; rfl) (by decide) ?_
        refine zt_aload_n kX12_stone_80 rfl ?_
        refine zt_iload_n kX12_stone_81 rfl ?_
        obtain ⟨pp0, H⟩ := H
        refine zt_cV (as := [zi x1]) kX12_stone_82 sRX12_87 rfl (by decide) rfl (by simp) rfl (sX12_weight _  pp0) (fun r h0 hq => ?_)
        obtain ⟨rfl, hh⟩ := hq
        replace hh := hh.symm
        subst hh
        exact zt_iret kX12_stone_85 rfl H
      replace H := H.2 c2
      rcases Classical.em (x2 = 3) with c3 | c3
      · replace H := H.1 c3
        refine zt_tabIn (tgt := 86) kX12_stone_34 (by rw [c3]; decide) (by rw [c3]; decide) (by rw [c3]; rfl) (by decide) ?_
        refine zt_aload_n kX12_stone_86 rfl ?_
        refine zt_iload_n kX12_stone_87 rfl ?_
        obtain ⟨pp0, H⟩ := H
        refine zt_cV (as := [zi x1]) kX12_stone_88 sRX12_101 rfl (by decide) rfl (by simp) rfl (sX12_bears _  pp0) (fun r h0 hq => ?_)
        obtain ⟨rfl, hh⟩ := hq
        replace hh := hh.symm
        subst hh
        exact zt_iret kX12_stone_91 rfl H
      replace H := H.2 c3
      rcases Classical.em (x2 = 4) with c4 | c4
      · replace H := H.1 c4
        refine zt_tabIn (tgt := 92) kX12_stone_34 (by rw [c4]; decide) (by rw [c4]; decide) (by rw [c4]; rfl) (by decide) ?_
        refine zt_aload_n kX12_stone_92 rfl ?_
        refine zt_get (v := zr 33 0) kX12_stone_93 fRX12_19 rfl (by decide) rfl ?_
        refine zt_iload_n kX12_stone_96 rfl ?_
        obtain ⟨hv, H⟩ := H
        refine zt_iald kX12_stone_97 rfl (by decide) hv ?_
        exact zt_iret kX12_stone_98 rfl H
      replace H := H.2 c4
      refine zt_tabOut (tgt := 99) kX12_stone_34 (by have n0 := lv_neT (a := 0) c0 rfl; have n1 := lv_neT (a := 1) c1 rfl; have n2 := lv_neT (a := 2) c2 rfl; have n3 := lv_neT (a := 3) c3 rfl; have n4 := lv_neT (a := 4) c4 rfl; omega) (by decide) ?_
      refine zt_aload_n kX12_stone_99 rfl ?_
      refine zt_iload_n kX12_stone_100 rfl ?_
      obtain ⟨pp0, H⟩ := H
      refine zt_cV (as := [zi x1]) kX12_stone_101 sRX12_157 rfl (by decide) rfl (by simp) rfl (sX12_noteOf _  pp0) (fun r h0 hq => ?_)
      obtain ⟨rfl, hh⟩ := hq
      replace hh := hh.symm
      subst hh
      exact zt_iret kX12_stone_104 rfl H
    · replace H := H.2 c
      refine zt_iload_n kX12_stone_21 rfl ?_
      exact zt_iret kX12_stone_22 rfl H
  · replace H := H.2 c
    refine zt_iconst (v := (-1)) kX12_stone_9 rfl ?_
    exact zt_iret kX12_stone_10 rfl H

theorem kX12_mostLoad_0 : zD cX12_mostLoad 0 1 (.iload_n 1) 1 := by decide +kernel
theorem kX12_mostLoad_1 : zD cX12_mostLoad 1 2 (.iconst 0) 1 := by decide +kernel
theorem kX12_mostLoad_2 : zD cX12_mostLoad 2 3 (.iconst 1) 1 := by decide +kernel
theorem kX12_mostLoad_3 : zD cX12_mostLoad 3 6 (.invokestatic 53) 3 := by decide +kernel
theorem kX12_mostLoad_6 : zB cX12_mostLoad 6 9 11 (.ifCond .ne 5) 5 := by decide +kernel
theorem kX12_mostLoad_9 : zD cX12_mostLoad 9 10 (.iconst (-1)) 1 := by decide +kernel
theorem kX12_mostLoad_10 : zD cX12_mostLoad 10 11 (.ireturn) 1 := by decide +kernel
theorem kX12_mostLoad_11 : zD cX12_mostLoad 11 12 (.aload_n 0) 1 := by decide +kernel
theorem kX12_mostLoad_12 : zD cX12_mostLoad 12 13 (.aload_n 0) 1 := by decide +kernel
theorem kX12_mostLoad_13 : zD cX12_mostLoad 13 16 (.getfield 9) 3 := by decide +kernel
theorem kX12_mostLoad_16 : zD cX12_mostLoad 16 17 (.iconst 0) 1 := by decide +kernel
theorem kX12_mostLoad_17 : zD cX12_mostLoad 17 18 (.iaload) 1 := by decide +kernel
theorem kX12_mostLoad_18 : zD cX12_mostLoad 18 21 (.invokevirtual 94) 3 := by decide +kernel
theorem kX12_mostLoad_21 : zD cX12_mostLoad 21 23 (.bipush (-4)) 2 := by decide +kernel
theorem kX12_mostLoad_23 : zD cX12_mostLoad 23 24 (.istore_n 2) 1 := by decide +kernel
theorem kX12_mostLoad_24 : zD cX12_mostLoad 24 25 (.iconst 0) 1 := by decide +kernel
theorem kX12_mostLoad_25 : zD cX12_mostLoad 25 26 (.istore_n 3) 1 := by decide +kernel
theorem kX12_mostLoad_26 : zD cX12_mostLoad 26 27 (.iload_n 3) 1 := by decide +kernel
theorem kX12_mostLoad_27 : zD cX12_mostLoad 27 29 (.bipush 12) 2 := by decide +kernel
theorem kX12_mostLoad_29 : zB cX12_mostLoad 29 32 67 (.if_icmp .ge 38) 38 := by decide +kernel
theorem kX12_mostLoad_32 : zD cX12_mostLoad 32 33 (.aload_n 0) 1 := by decide +kernel
theorem kX12_mostLoad_33 : zD cX12_mostLoad 33 34 (.iload_n 3) 1 := by decide +kernel
theorem kX12_mostLoad_34 : zD cX12_mostLoad 34 37 (.invokevirtual 133) 3 := by decide +kernel
theorem kX12_mostLoad_37 : zB cX12_mostLoad 37 40 61 (.ifCond .eq 24) 24 := by decide +kernel
theorem kX12_mostLoad_40 : zD cX12_mostLoad 40 41 (.iload_n 2) 1 := by decide +kernel
theorem kX12_mostLoad_41 : zB cX12_mostLoad 41 44 59 (.ifCond .lt 18) 18 := by decide +kernel
theorem kX12_mostLoad_44 : zD cX12_mostLoad 44 45 (.aload_n 0) 1 := by decide +kernel
theorem kX12_mostLoad_45 : zD cX12_mostLoad 45 48 (.getfield 19) 3 := by decide +kernel
theorem kX12_mostLoad_48 : zD cX12_mostLoad 48 49 (.iload_n 3) 1 := by decide +kernel
theorem kX12_mostLoad_49 : zD cX12_mostLoad 49 50 (.iaload) 1 := by decide +kernel
theorem kX12_mostLoad_50 : zD cX12_mostLoad 50 51 (.aload_n 0) 1 := by decide +kernel
theorem kX12_mostLoad_51 : zD cX12_mostLoad 51 54 (.getfield 19) 3 := by decide +kernel
theorem kX12_mostLoad_54 : zD cX12_mostLoad 54 55 (.iload_n 2) 1 := by decide +kernel
theorem kX12_mostLoad_55 : zD cX12_mostLoad 55 56 (.iaload) 1 := by decide +kernel
theorem kX12_mostLoad_56 : zB cX12_mostLoad 56 59 61 (.if_icmp .le 5) 5 := by decide +kernel
theorem kX12_mostLoad_59 : zD cX12_mostLoad 59 60 (.iload_n 3) 1 := by decide +kernel
theorem kX12_mostLoad_60 : zD cX12_mostLoad 60 61 (.istore_n 2) 1 := by decide +kernel
theorem kX12_mostLoad_61 : zD cX12_mostLoad 61 64 (.iinc 3 1) 3 := by decide +kernel
theorem kX12_mostLoad_64 : zB cX12_mostLoad 64 67 26 (.goto (-38)) (-38) := by decide +kernel
theorem kX12_mostLoad_67 : zD cX12_mostLoad 67 68 (.iload_n 2) 1 := by decide +kernel
theorem kX12_mostLoad_68 : zB cX12_mostLoad 68 71 76 (.ifCond .lt 8) 8 := by decide +kernel
theorem kX12_mostLoad_71 : zD cX12_mostLoad 71 72 (.iload_n 1) 1 := by decide +kernel
theorem kX12_mostLoad_72 : zD cX12_mostLoad 72 73 (.iconst 1) 1 := by decide +kernel
theorem kX12_mostLoad_73 : zB cX12_mostLoad 73 76 80 (.if_icmp .ne 7) 7 := by decide +kernel
theorem kX12_mostLoad_76 : zD cX12_mostLoad 76 77 (.iload_n 2) 1 := by decide +kernel
theorem kX12_mostLoad_77 : zB cX12_mostLoad 77 80 86 (.goto 9) 9 := by decide +kernel
theorem kX12_mostLoad_80 : zD cX12_mostLoad 80 81 (.aload_n 0) 1 := by decide +kernel
theorem kX12_mostLoad_81 : zD cX12_mostLoad 81 84 (.getfield 19) 3 := by decide +kernel
theorem kX12_mostLoad_84 : zD cX12_mostLoad 84 85 (.iload_n 2) 1 := by decide +kernel
theorem kX12_mostLoad_85 : zD cX12_mostLoad 85 86 (.iaload) 1 := by decide +kernel
theorem kX12_mostLoad_86 : zD cX12_mostLoad 86 87 (.ireturn) 1 := by decide +kernel
set_option maxRecDepth 10000 in
theorem wX12_mostLoad_0 {G : ZG} {d : Nat} {h : ZH} {Q : Option ZV → ZH → Prop} {x1 : Int32} 
  (H : (((0 : Int32) ≤ x1 ∧ x1 ≤ (1 : Int32)) → zC G (d + 4) mX12_loads [zr 5 0, zi (h.1 30 0 0)] h (fun r2 h1 => r2 = none ∧ zT G (d + 5) mX12_mostLoad 26 [zr 5 0, zi x1, zi (-4), zi 0] [] h1 Q)) ∧ (¬ ((0 : Int32) ≤ x1 ∧ x1 ≤ (1 : Int32)) → Q (some (zi (-1))) h)) :
  zT G (d + 5) mX12_mostLoad 0 [zr 5 0, zi x1, zu, zu] [] h Q := by
  refine zt_iload_n kX12_mostLoad_0 rfl ?_
  refine zt_iconst (v := 0) kX12_mostLoad_1 rfl ?_
  refine zt_iconst (v := 1) kX12_mostLoad_2 rfl ?_
  refine zt_cS (as := [zi x1, zi 0, zi 1]) kX12_mostLoad_3 sRX12_53 rfl (by simp) rfl (sX12_isIn _  ) (fun r h0 hq => ?_)
  obtain ⟨rfl, hh⟩ := hq
  replace hh := hh.symm
  subst hh
  refine zt_ifb_ne kX12_mostLoad_6 (fun c => ?_) (fun c => ?_)
  · replace H := H.1 c
    refine zt_aload_n kX12_mostLoad_11 rfl ?_
    refine zt_aload_n kX12_mostLoad_12 rfl ?_
    refine zt_get (v := zr 30 0) kX12_mostLoad_13 fRX12_9 rfl (by decide) rfl ?_
    refine zt_iconst (v := 0) kX12_mostLoad_16 rfl ?_
    refine zt_ialdc 0 rfl kX12_mostLoad_17 rfl (by decide) (zvp_dec (by decide)) ?_
    refine zt_cV (as := [zi (h.1 30 0 0)]) kX12_mostLoad_18 sRX12_94 rfl (by decide) rfl (by simp) rfl H (fun r2 h1 H => ?_)
    obtain ⟨rfl, H⟩ := H
    refine zt_bipush (v := (-4)) kX12_mostLoad_21 rfl ?_
    refine zt_istore_n (L' := [zr 5 0, zi x1, zi (-4), zu]) kX12_mostLoad_23 (by decide) rfl ?_
    refine zt_iconst (v := 0) kX12_mostLoad_24 rfl ?_
    refine zt_istore_n (L' := [zr 5 0, zi x1, zi (-4), zi 0]) kX12_mostLoad_25 (by decide) rfl ?_
    exact H
  · replace H := H.2 c
    refine zt_iconst (v := (-1)) kX12_mostLoad_9 rfl ?_
    exact zt_iret kX12_mostLoad_10 rfl H

set_option maxRecDepth 10000 in
theorem wX12_mostLoad_26 {G : ZG} {d : Nat} {h : ZH} {Q : Option ZV → ZH → Prop} {x1 : Int32} {x2 : Int32} {x3 : Int32} 
  (H : (12 ≤ x3 → (x2 < 0 → Q (some (zi x2)) h) ∧ (¬ x2 < 0 → (¬ x1 = 1 → vp_in x2 12 ∧ Q (some (zi (h.1 33 0 x2.toNatClampNeg))) h) ∧ (x1 = 1 → Q (some (zi x2)) h))) ∧ (¬ 12 ≤ x3 → (¬ (hasI (h.1 30 0 0) x3) → zT G (d + 5) mX12_mostLoad 26 [zr 5 0, zi x1, zi x2, zi (x3 + 1)] [] h Q) ∧ ((hasI (h.1 30 0 0) x3) → (x2 < 0 → zT G (d + 5) mX12_mostLoad 26 [zr 5 0, zi x1, zi x3, zi (x3 + 1)] [] h Q) ∧ (¬ x2 < 0 → vp_in x3 12 ∧ vp_in x2 12 ∧ ((h.1 33 0 x3.toNatClampNeg) ≤ (h.1 33 0 x2.toNatClampNeg) → zT G (d + 5) mX12_mostLoad 26 [zr 5 0, zi x1, zi x2, zi (x3 + 1)] [] h Q) ∧ (¬ (h.1 33 0 x3.toNatClampNeg) ≤ (h.1 33 0 x2.toNatClampNeg) → zT G (d + 5) mX12_mostLoad 26 [zr 5 0, zi x1, zi x3, zi (x3 + 1)] [] h Q))))) :
  zT G (d + 5) mX12_mostLoad 26 [zr 5 0, zi x1, zi x2, zi x3] [] h Q := by
  refine zt_iload_n kX12_mostLoad_26 rfl ?_
  refine zt_bipush (v := 12) kX12_mostLoad_27 rfl ?_
  refine zt_icmp_ge kX12_mostLoad_29 (fun c => ?_) (fun c => ?_)
  · replace H := H.1 c
    refine zt_iload_n kX12_mostLoad_67 rfl ?_
    refine zt_if_lt kX12_mostLoad_68 (fun c => ?_) (fun c => ?_)
    · replace H := H.1 c
      refine zt_iload_n kX12_mostLoad_76 rfl ?_
      refine zt_goto kX12_mostLoad_77 ?_
      exact zt_iret kX12_mostLoad_86 rfl H
    · replace H := H.2 c
      refine zt_iload_n kX12_mostLoad_71 rfl ?_
      refine zt_iconst (v := 1) kX12_mostLoad_72 rfl ?_
      refine zt_icmp_ne kX12_mostLoad_73 (fun c => ?_) (fun c => ?_)
      · replace H := H.1 c
        refine zt_aload_n kX12_mostLoad_80 rfl ?_
        refine zt_get (v := zr 33 0) kX12_mostLoad_81 fRX12_19 rfl (by decide) rfl ?_
        refine zt_iload_n kX12_mostLoad_84 rfl ?_
        obtain ⟨hv, H⟩ := H
        refine zt_iald kX12_mostLoad_85 rfl (by decide) hv ?_
        exact zt_iret kX12_mostLoad_86 rfl H
      · replace H := H.2 c
        refine zt_iload_n kX12_mostLoad_76 rfl ?_
        refine zt_goto kX12_mostLoad_77 ?_
        exact zt_iret kX12_mostLoad_86 rfl H
  · replace H := H.2 c
    refine zt_aload_n kX12_mostLoad_32 rfl ?_
    refine zt_iload_n kX12_mostLoad_33 rfl ?_
    refine zt_cV (as := [zi x3]) kX12_mostLoad_34 sRX12_133 rfl (by decide) rfl (by simp) rfl (sX12_isThere _  ) (fun r h0 hq => ?_)
    obtain ⟨rfl, hh⟩ := hq
    replace hh := hh.symm
    subst hh
    refine zt_ifb_eq kX12_mostLoad_37 (fun c => ?_) (fun c => ?_)
    · replace H := H.1 c
      refine zt_iinc (v := (x3 + 1)) (L' := [zr 5 0, zi x1, zi x2, zi (x3 + 1)]) kX12_mostLoad_61 rfl rfl (by decide) rfl ?_
      refine zt_goto kX12_mostLoad_64 ?_
      exact H
    · replace H := H.2 c
      refine zt_iload_n kX12_mostLoad_40 rfl ?_
      refine zt_if_lt kX12_mostLoad_41 (fun c => ?_) (fun c => ?_)
      · replace H := H.1 c
        refine zt_iload_n kX12_mostLoad_59 rfl ?_
        refine zt_istore_n (L' := [zr 5 0, zi x1, zi x3, zi x3]) kX12_mostLoad_60 (by decide) rfl ?_
        refine zt_iinc (v := (x3 + 1)) (L' := [zr 5 0, zi x1, zi x3, zi (x3 + 1)]) kX12_mostLoad_61 rfl rfl (by decide) rfl ?_
        refine zt_goto kX12_mostLoad_64 ?_
        exact H
      · replace H := H.2 c
        refine zt_aload_n kX12_mostLoad_44 rfl ?_
        refine zt_get (v := zr 33 0) kX12_mostLoad_45 fRX12_19 rfl (by decide) rfl ?_
        refine zt_iload_n kX12_mostLoad_48 rfl ?_
        obtain ⟨hv, H⟩ := H
        refine zt_iald kX12_mostLoad_49 rfl (by decide) hv ?_
        refine zt_aload_n kX12_mostLoad_50 rfl ?_
        refine zt_get (v := zr 33 0) kX12_mostLoad_51 fRX12_19 rfl (by decide) rfl ?_
        refine zt_iload_n kX12_mostLoad_54 rfl ?_
        obtain ⟨hv, H⟩ := H
        refine zt_iald kX12_mostLoad_55 rfl (by decide) hv ?_
        refine zt_icmp_le kX12_mostLoad_56 (fun c => ?_) (fun c => ?_)
        · replace H := H.1 c
          refine zt_iinc (v := (x3 + 1)) (L' := [zr 5 0, zi x1, zi x2, zi (x3 + 1)]) kX12_mostLoad_61 rfl rfl (by decide) rfl ?_
          refine zt_goto kX12_mostLoad_64 ?_
          exact H
        · replace H := H.2 c
          refine zt_iload_n kX12_mostLoad_59 rfl ?_
          refine zt_istore_n (L' := [zr 5 0, zi x1, zi x3, zi x3]) kX12_mostLoad_60 (by decide) rfl ?_
          refine zt_iinc (v := (x3 + 1)) (L' := [zr 5 0, zi x1, zi x3, zi (x3 + 1)]) kX12_mostLoad_61 rfl rfl (by decide) rfl ?_
          refine zt_goto kX12_mostLoad_64 ?_
          exact H

theorem kX12_more_0 : zD cX12_more 0 1 (.aload_n 0) 1 := by decide +kernel
theorem kX12_more_1 : zD cX12_more 1 2 (.iload_n 1) 1 := by decide +kernel
theorem kX12_more_2 : zD cX12_more 2 5 (.invokevirtual 154) 3 := by decide +kernel
theorem kX12_more_5 : zD cX12_more 5 6 (.istore_n 2) 1 := by decide +kernel
theorem kX12_more_6 : zD cX12_more 6 7 (.iload_n 2) 1 := by decide +kernel
theorem kX12_more_7 : zB cX12_more 7 10 12 (.ifCond .eq 5) 5 := by decide +kernel
theorem kX12_more_10 : zD cX12_more 10 11 (.iload_n 2) 1 := by decide +kernel
theorem kX12_more_11 : zD cX12_more 11 12 (.ireturn) 1 := by decide +kernel
theorem kX12_more_12 : zD cX12_more 12 13 (.aload_n 0) 1 := by decide +kernel
theorem kX12_more_13 : zD cX12_more 13 14 (.aload_n 0) 1 := by decide +kernel
theorem kX12_more_14 : zD cX12_more 14 17 (.getfield 9) 3 := by decide +kernel
theorem kX12_more_17 : zD cX12_more 17 18 (.iconst 0) 1 := by decide +kernel
theorem kX12_more_18 : zD cX12_more 18 19 (.iaload) 1 := by decide +kernel
theorem kX12_more_19 : zD cX12_more 19 22 (.invokevirtual 94) 3 := by decide +kernel
theorem kX12_more_22 : zD cX12_more 22 23 (.aload_n 0) 1 := by decide +kernel
theorem kX12_more_23 : zD cX12_more 23 24 (.iload_n 1) 1 := by decide +kernel
theorem kX12_more_24 : zD cX12_more 24 27 (.invokevirtual 101) 3 := by decide +kernel
theorem kX12_more_27 : zD cX12_more 27 28 (.aload_n 0) 1 := by decide +kernel
theorem kX12_more_28 : zD cX12_more 28 31 (.getfield 19) 3 := by decide +kernel
theorem kX12_more_31 : zD cX12_more 31 32 (.iload_n 1) 1 := by decide +kernel
theorem kX12_more_32 : zD cX12_more 32 33 (.iaload) 1 := by decide +kernel
theorem kX12_more_33 : zD cX12_more 33 34 (.isub) 1 := by decide +kernel
theorem kX12_more_34 : zD cX12_more 34 35 (.istore_n 3) 1 := by decide +kernel
theorem kX12_more_35 : zD cX12_more 35 36 (.iload_n 3) 1 := by decide +kernel
theorem kX12_more_36 : zD cX12_more 36 38 (.bipush 99) 2 := by decide +kernel
theorem kX12_more_38 : zB cX12_more 38 41 46 (.if_icmp .le 8) 8 := by decide +kernel
theorem kX12_more_41 : zD cX12_more 41 43 (.bipush 99) 2 := by decide +kernel
theorem kX12_more_43 : zB cX12_more 43 46 47 (.goto 4) 4 := by decide +kernel
theorem kX12_more_46 : zD cX12_more 46 47 (.iload_n 3) 1 := by decide +kernel
theorem kX12_more_47 : zD cX12_more 47 48 (.ireturn) 1 := by decide +kernel
set_option maxRecDepth 10000 in
theorem wX12_more_0 {G : ZG} {d : Nat} {h : ZH} {Q : Option ZV → ZH → Prop} {x1 : Int32} 
  (H : ((wStoneI h x1) = 0 → zC G (d + 4) mX12_loads [zr 5 0, zi (h.1 30 0 0)] h (fun r2 h1 => r2 = none ∧ vp_in x1 12 ∧ (vp_in x1 12 ∧ ∀ y3 : Int32, y3 = ((brsI (kindI h1 x1) (figI h1 x1)) - (h1.1 33 0 x1.toNatClampNeg)) → (y3 ≤ 99 → Q (some (zi y3)) h1) ∧ (¬ y3 ≤ 99 → Q (some (zi 99)) h1)))) ∧ (¬ (wStoneI h x1) = 0 → Q (some (zi (wStoneI h x1))) h)) :
  zT G (d + 5) mX12_more 0 [zr 5 0, zi x1, zu, zu] [] h Q := by
  refine zt_aload_n kX12_more_0 rfl ?_
  refine zt_iload_n kX12_more_1 rfl ?_
  refine zt_cV (as := [zi x1]) kX12_more_2 sRX12_154 rfl (by decide) rfl (by simp) rfl (sX12_wrongStone _  ) (fun r h0 hq => ?_)
  obtain ⟨rfl, hh⟩ := hq
  replace hh := hh.symm
  subst hh
  refine zt_istore_n (L' := [zr 5 0, zi x1, zi (wStoneI h x1), zu]) kX12_more_5 (by decide) rfl ?_
  refine zt_iload_n kX12_more_6 rfl ?_
  refine zt_if_eq kX12_more_7 (fun c => ?_) (fun c => ?_)
  · replace H := H.1 c
    refine zt_aload_n kX12_more_12 rfl ?_
    refine zt_aload_n kX12_more_13 rfl ?_
    refine zt_get (v := zr 30 0) kX12_more_14 fRX12_9 rfl (by decide) rfl ?_
    refine zt_iconst (v := 0) kX12_more_17 rfl ?_
    refine zt_ialdc 0 rfl kX12_more_18 rfl (by decide) (zvp_dec (by decide)) ?_
    refine zt_cV (as := [zi (h.1 30 0 0)]) kX12_more_19 sRX12_94 rfl (by decide) rfl (by simp) rfl H (fun r2 h1 H => ?_)
    obtain ⟨rfl, H⟩ := H
    refine zt_aload_n kX12_more_22 rfl ?_
    refine zt_iload_n kX12_more_23 rfl ?_
    obtain ⟨pp0, H⟩ := H
    refine zt_cV (as := [zi x1]) kX12_more_24 sRX12_101 rfl (by decide) rfl (by simp) rfl (sX12_bears _  pp0) (fun r h0 hq => ?_)
    obtain ⟨rfl, hh⟩ := hq
    replace hh := hh.symm
    subst hh
    refine zt_aload_n kX12_more_27 rfl ?_
    refine zt_get (v := zr 33 0) kX12_more_28 fRX12_19 rfl (by decide) rfl ?_
    refine zt_iload_n kX12_more_31 rfl ?_
    obtain ⟨hv, H⟩ := H
    refine zt_iald kX12_more_32 rfl (by decide) hv ?_
    refine zt_isub kX12_more_33 ?_
    refine zt_topi (fun y3 ey3 => ?_)
    replace H := H y3 ey3
    refine zt_istore_n (L' := [zr 5 0, zi x1, zi (wStoneI h x1), zi y3]) kX12_more_34 (by decide) rfl ?_
    refine zt_iload_n kX12_more_35 rfl ?_
    refine zt_bipush (v := 99) kX12_more_36 rfl ?_
    refine zt_icmp_le kX12_more_38 (fun c => ?_) (fun c => ?_)
    · replace H := H.1 c
      refine zt_iload_n kX12_more_46 rfl ?_
      exact zt_iret kX12_more_47 rfl H
    · replace H := H.2 c
      refine zt_bipush (v := 99) kX12_more_41 rfl ?_
      refine zt_goto kX12_more_43 ?_
      exact zt_iret kX12_more_47 rfl H
  · replace H := H.2 c
    refine zt_iload_n kX12_more_10 rfl ?_
    exact zt_iret kX12_more_11 rfl H

theorem kX12_columnOf_0 : zD cX12_columnOf 0 1 (.iconst 0) 1 := by decide +kernel
theorem kX12_columnOf_1 : zD cX12_columnOf 1 2 (.istore_n 2) 1 := by decide +kernel
theorem kX12_columnOf_2 : zD cX12_columnOf 2 3 (.iload_n 1) 1 := by decide +kernel
theorem kX12_columnOf_3 : zD cX12_columnOf 3 4 (.istore_n 3) 1 := by decide +kernel
theorem kX12_columnOf_4 : zD cX12_columnOf 4 5 (.iload_n 3) 1 := by decide +kernel
theorem kX12_columnOf_5 : zD cX12_columnOf 5 7 (.bipush 12) 2 := by decide +kernel
theorem kX12_columnOf_7 : zB cX12_columnOf 7 10 36 (.if_icmp .ge 29) 29 := by decide +kernel
theorem kX12_columnOf_10 : zD cX12_columnOf 10 11 (.iload_n 2) 1 := by decide +kernel
theorem kX12_columnOf_11 : zD cX12_columnOf 11 12 (.aload_n 0) 1 := by decide +kernel
theorem kX12_columnOf_12 : zD cX12_columnOf 12 13 (.iload_n 3) 1 := by decide +kernel
theorem kX12_columnOf_13 : zD cX12_columnOf 13 16 (.invokevirtual 133) 3 := by decide +kernel
theorem kX12_columnOf_16 : zB cX12_columnOf 16 19 27 (.ifCond .eq 11) 11 := by decide +kernel
theorem kX12_columnOf_19 : zD cX12_columnOf 19 20 (.aload_n 0) 1 := by decide +kernel
theorem kX12_columnOf_20 : zD cX12_columnOf 20 21 (.iload_n 3) 1 := by decide +kernel
theorem kX12_columnOf_21 : zD cX12_columnOf 21 24 (.invokevirtual 87) 3 := by decide +kernel
theorem kX12_columnOf_24 : zB cX12_columnOf 24 27 28 (.goto 4) 4 := by decide +kernel
theorem kX12_columnOf_27 : zD cX12_columnOf 27 28 (.iconst 0) 1 := by decide +kernel
theorem kX12_columnOf_28 : zD cX12_columnOf 28 29 (.iadd) 1 := by decide +kernel
theorem kX12_columnOf_29 : zD cX12_columnOf 29 30 (.istore_n 2) 1 := by decide +kernel
theorem kX12_columnOf_30 : zD cX12_columnOf 30 33 (.iinc 3 4) 3 := by decide +kernel
theorem kX12_columnOf_33 : zB cX12_columnOf 33 36 4 (.goto (-29)) (-29) := by decide +kernel
theorem kX12_columnOf_36 : zD cX12_columnOf 36 37 (.iload_n 2) 1 := by decide +kernel
theorem kX12_columnOf_37 : zD cX12_columnOf 37 38 (.ireturn) 1 := by decide +kernel
set_option maxRecDepth 10000 in
theorem wX12_columnOf_0 {G : ZG} {d : Nat} {h : ZH} {Q : Option ZV → ZH → Prop} {x1 : Int32} 
  (H : zT G (d + 3) mX12_columnOf 4 [zr 5 0, zi x1, zi 0, zi x1] [] h Q) :
  zT G (d + 3) mX12_columnOf 0 [zr 5 0, zi x1, zu, zu] [] h Q := by
  refine zt_iconst (v := 0) kX12_columnOf_0 rfl ?_
  refine zt_istore_n (L' := [zr 5 0, zi x1, zi 0, zu]) kX12_columnOf_1 (by decide) rfl ?_
  refine zt_iload_n kX12_columnOf_2 rfl ?_
  refine zt_istore_n (L' := [zr 5 0, zi x1, zi 0, zi x1]) kX12_columnOf_3 (by decide) rfl ?_
  exact H

set_option maxRecDepth 10000 in
theorem wX12_columnOf_4 {G : ZG} {d : Nat} {h : ZH} {Q : Option ZV → ZH → Prop} {x1 : Int32} {x2 : Int32} {x3 : Int32} 
  (H : (12 ≤ x3 → Q (some (zi x2)) h) ∧ (¬ 12 ≤ x3 → (¬ (hasI (h.1 30 0 0) x3) → zT G (d + 3) mX12_columnOf 4 [zr 5 0, zi x1, zi (x2 + 0), zi (x3 + 4)] [] h Q) ∧ ((hasI (h.1 30 0 0) x3) → vp_in x3 12 ∧ (zT G (d + 3) mX12_columnOf 4 [zr 5 0, zi x1, zi (x2 + (wgtI (kindI h x3) (figI h x3))), zi (x3 + 4)] [] h Q)))) :
  zT G (d + 3) mX12_columnOf 4 [zr 5 0, zi x1, zi x2, zi x3] [] h Q := by
  refine zt_iload_n kX12_columnOf_4 rfl ?_
  refine zt_bipush (v := 12) kX12_columnOf_5 rfl ?_
  refine zt_icmp_ge kX12_columnOf_7 (fun c => ?_) (fun c => ?_)
  · replace H := H.1 c
    refine zt_iload_n kX12_columnOf_36 rfl ?_
    exact zt_iret kX12_columnOf_37 rfl H
  · replace H := H.2 c
    refine zt_iload_n kX12_columnOf_10 rfl ?_
    refine zt_aload_n kX12_columnOf_11 rfl ?_
    refine zt_iload_n kX12_columnOf_12 rfl ?_
    refine zt_cV (as := [zi x3]) kX12_columnOf_13 sRX12_133 rfl (by decide) rfl (by simp) rfl (sX12_isThere _  ) (fun r h0 hq => ?_)
    obtain ⟨rfl, hh⟩ := hq
    replace hh := hh.symm
    subst hh
    refine zt_ifb_eq kX12_columnOf_16 (fun c => ?_) (fun c => ?_)
    · replace H := H.1 c
      refine zt_iconst (v := 0) kX12_columnOf_27 rfl ?_
      refine zt_iadd kX12_columnOf_28 ?_
      refine zt_istore_n (L' := [zr 5 0, zi x1, zi (x2 + 0), zi x3]) kX12_columnOf_29 (by decide) rfl ?_
      refine zt_iinc (v := (x3 + 4)) (L' := [zr 5 0, zi x1, zi (x2 + 0), zi (x3 + 4)]) kX12_columnOf_30 rfl rfl (by decide) rfl ?_
      refine zt_goto kX12_columnOf_33 ?_
      exact H
    · replace H := H.2 c
      refine zt_aload_n kX12_columnOf_19 rfl ?_
      refine zt_iload_n kX12_columnOf_20 rfl ?_
      obtain ⟨pp0, H⟩ := H
      refine zt_cV (as := [zi x3]) kX12_columnOf_21 sRX12_87 rfl (by decide) rfl (by simp) rfl (sX12_weight _  pp0) (fun r h0 hq => ?_)
      obtain ⟨rfl, hh⟩ := hq
      replace hh := hh.symm
      subst hh
      refine zt_goto kX12_columnOf_24 ?_
      refine zt_iadd kX12_columnOf_28 ?_
      refine zt_istore_n (L' := [zr 5 0, zi x1, zi (x2 + (wgtI (kindI h x3) (figI h x3))), zi x3]) kX12_columnOf_29 (by decide) rfl ?_
      refine zt_iinc (v := (x3 + 4)) (L' := [zr 5 0, zi x1, zi (x2 + (wgtI (kindI h x3) (figI h x3))), zi (x3 + 4)]) kX12_columnOf_30 rfl rfl (by decide) rfl ?_
      refine zt_goto kX12_columnOf_33 ?_
      exact H

theorem kX12_lean_0 : zD cX12_lean 0 1 (.iload_n 1) 1 := by decide +kernel
theorem kX12_lean_1 : zD cX12_lean 1 2 (.iconst 0) 1 := by decide +kernel
theorem kX12_lean_2 : zD cX12_lean 2 3 (.iconst 1) 1 := by decide +kernel
theorem kX12_lean_3 : zD cX12_lean 3 6 (.invokestatic 53) 3 := by decide +kernel
theorem kX12_lean_6 : zB cX12_lean 6 9 12 (.ifCond .ne 6) 6 := by decide +kernel
theorem kX12_lean_9 : zD cX12_lean 9 11 (.ldc 202) 2 := by decide +kernel
theorem kX12_lean_11 : zD cX12_lean 11 12 (.ireturn) 1 := by decide +kernel
theorem kX12_lean_12 : zD cX12_lean 12 13 (.iload_n 1) 1 := by decide +kernel
theorem kX12_lean_13 : zB cX12_lean 13 16 40 (.ifCond .ne 27) 27 := by decide +kernel
theorem kX12_lean_16 : zD cX12_lean 16 17 (.aload_n 0) 1 := by decide +kernel
theorem kX12_lean_17 : zD cX12_lean 17 18 (.iconst 0) 1 := by decide +kernel
theorem kX12_lean_18 : zD cX12_lean 18 21 (.invokevirtual 203) 3 := by decide +kernel
theorem kX12_lean_21 : zD cX12_lean 21 22 (.aload_n 0) 1 := by decide +kernel
theorem kX12_lean_22 : zD cX12_lean 22 23 (.iconst 1) 1 := by decide +kernel
theorem kX12_lean_23 : zD cX12_lean 23 26 (.invokevirtual 203) 3 := by decide +kernel
theorem kX12_lean_26 : zD cX12_lean 26 27 (.iadd) 1 := by decide +kernel
theorem kX12_lean_27 : zD cX12_lean 27 28 (.aload_n 0) 1 := by decide +kernel
theorem kX12_lean_28 : zD cX12_lean 28 29 (.iconst 2) 1 := by decide +kernel
theorem kX12_lean_29 : zD cX12_lean 29 32 (.invokevirtual 203) 3 := by decide +kernel
theorem kX12_lean_32 : zD cX12_lean 32 33 (.isub) 1 := by decide +kernel
theorem kX12_lean_33 : zD cX12_lean 33 34 (.aload_n 0) 1 := by decide +kernel
theorem kX12_lean_34 : zD cX12_lean 34 35 (.iconst 3) 1 := by decide +kernel
theorem kX12_lean_35 : zD cX12_lean 35 38 (.invokevirtual 203) 3 := by decide +kernel
theorem kX12_lean_38 : zD cX12_lean 38 39 (.isub) 1 := by decide +kernel
theorem kX12_lean_39 : zD cX12_lean 39 40 (.ireturn) 1 := by decide +kernel
theorem kX12_lean_40 : zD cX12_lean 40 41 (.iconst 0) 1 := by decide +kernel
theorem kX12_lean_41 : zD cX12_lean 41 42 (.istore_n 2) 1 := by decide +kernel
theorem kX12_lean_42 : zD cX12_lean 42 43 (.iconst 1) 1 := by decide +kernel
theorem kX12_lean_43 : zD cX12_lean 43 44 (.istore_n 3) 1 := by decide +kernel
theorem kX12_lean_44 : zD cX12_lean 44 45 (.iload_n 3) 1 := by decide +kernel
theorem kX12_lean_45 : zD cX12_lean 45 46 (.iconst 4) 1 := by decide +kernel
theorem kX12_lean_46 : zB cX12_lean 46 49 70 (.if_icmp .ge 24) 24 := by decide +kernel
theorem kX12_lean_49 : zD cX12_lean 49 50 (.aload_n 0) 1 := by decide +kernel
theorem kX12_lean_50 : zD cX12_lean 50 51 (.iload_n 3) 1 := by decide +kernel
theorem kX12_lean_51 : zD cX12_lean 51 54 (.invokevirtual 203) 3 := by decide +kernel
theorem kX12_lean_54 : zD cX12_lean 54 55 (.aload_n 0) 1 := by decide +kernel
theorem kX12_lean_55 : zD cX12_lean 55 56 (.iload_n 2) 1 := by decide +kernel
theorem kX12_lean_56 : zD cX12_lean 56 59 (.invokevirtual 203) 3 := by decide +kernel
theorem kX12_lean_59 : zB cX12_lean 59 62 64 (.if_icmp .le 5) 5 := by decide +kernel
theorem kX12_lean_62 : zD cX12_lean 62 63 (.iload_n 3) 1 := by decide +kernel
theorem kX12_lean_63 : zD cX12_lean 63 64 (.istore_n 2) 1 := by decide +kernel
theorem kX12_lean_64 : zD cX12_lean 64 67 (.iinc 3 1) 3 := by decide +kernel
theorem kX12_lean_67 : zB cX12_lean 67 70 44 (.goto (-23)) (-23) := by decide +kernel
theorem kX12_lean_70 : zD cX12_lean 70 71 (.iload_n 2) 1 := by decide +kernel
theorem kX12_lean_71 : zD cX12_lean 71 72 (.ireturn) 1 := by decide +kernel
set_option maxRecDepth 10000 in
theorem wX12_lean_0 {G : ZG} {d : Nat} {h : ZH} {Q : Option ZV → ZH → Prop} {x1 : Int32} 
  (H : (((0 : Int32) ≤ x1 ∧ x1 ≤ (1 : Int32)) → (¬ x1 = 0 → zT G (d + 4) mX12_lean 44 [zr 5 0, zi x1, zi 0, zi 1] [] h Q) ∧ (x1 = 0 → zC G (d + 3) mX12_columnOf [zr 5 0, zi 0] h (fun r2 h1 => ∃ y3 : Int32, r2 = some (zi y3) ∧ zC G (d + 3) mX12_columnOf [zr 5 0, zi 1] h1 (fun r5 h4 => ∃ y6 : Int32, r5 = some (zi y6) ∧ zC G (d + 3) mX12_columnOf [zr 5 0, zi 2] h4 (fun r8 h7 => ∃ y9 : Int32, r8 = some (zi y9) ∧ zC G (d + 3) mX12_columnOf [zr 5 0, zi 3] h7 (fun r11 h10 => ∃ y12 : Int32, r11 = some (zi y12) ∧ Q (some (zi (((y3 + y6) - y9) - y12))) h10)))))) ∧ (¬ ((0 : Int32) ≤ x1 ∧ x1 ≤ (1 : Int32)) → Q (some (zi 1000000001)) h)) :
  zT G (d + 4) mX12_lean 0 [zr 5 0, zi x1, zu, zu] [] h Q := by
  refine zt_iload_n kX12_lean_0 rfl ?_
  refine zt_iconst (v := 0) kX12_lean_1 rfl ?_
  refine zt_iconst (v := 1) kX12_lean_2 rfl ?_
  refine zt_cS (as := [zi x1, zi 0, zi 1]) kX12_lean_3 sRX12_53 rfl (by simp) rfl (sX12_isIn _  ) (fun r h0 hq => ?_)
  obtain ⟨rfl, hh⟩ := hq
  replace hh := hh.symm
  subst hh
  refine zt_ifb_ne kX12_lean_6 (fun c => ?_) (fun c => ?_)
  · replace H := H.1 c
    refine zt_iload_n kX12_lean_12 rfl ?_
    refine zt_if_ne kX12_lean_13 (fun c => ?_) (fun c => ?_)
    · replace H := H.1 c
      refine zt_iconst (v := 0) kX12_lean_40 rfl ?_
      refine zt_istore_n (L' := [zr 5 0, zi x1, zi 0, zu]) kX12_lean_41 (by decide) rfl ?_
      refine zt_iconst (v := 1) kX12_lean_42 rfl ?_
      refine zt_istore_n (L' := [zr 5 0, zi x1, zi 0, zi 1]) kX12_lean_43 (by decide) rfl ?_
      exact H
    · replace H := H.2 c
      refine zt_aload_n kX12_lean_16 rfl ?_
      refine zt_iconst (v := 0) kX12_lean_17 rfl ?_
      refine zt_cV (as := [zi 0]) kX12_lean_18 sRX12_203 rfl (by decide) rfl (by simp) rfl H (fun r2 h1 H => ?_)
      obtain ⟨y3, rfl, H⟩ := H
      refine zt_aload_n kX12_lean_21 rfl ?_
      refine zt_iconst (v := 1) kX12_lean_22 rfl ?_
      refine zt_cV (as := [zi 1]) kX12_lean_23 sRX12_203 rfl (by decide) rfl (by simp) rfl H (fun r5 h4 H => ?_)
      obtain ⟨y6, rfl, H⟩ := H
      refine zt_iadd kX12_lean_26 ?_
      refine zt_aload_n kX12_lean_27 rfl ?_
      refine zt_iconst (v := 2) kX12_lean_28 rfl ?_
      refine zt_cV (as := [zi 2]) kX12_lean_29 sRX12_203 rfl (by decide) rfl (by simp) rfl H (fun r8 h7 H => ?_)
      obtain ⟨y9, rfl, H⟩ := H
      refine zt_isub kX12_lean_32 ?_
      refine zt_aload_n kX12_lean_33 rfl ?_
      refine zt_iconst (v := 3) kX12_lean_34 rfl ?_
      refine zt_cV (as := [zi 3]) kX12_lean_35 sRX12_203 rfl (by decide) rfl (by simp) rfl H (fun r11 h10 H => ?_)
      obtain ⟨y12, rfl, H⟩ := H
      refine zt_isub kX12_lean_38 ?_
      exact zt_iret kX12_lean_39 rfl H
  · replace H := H.2 c
    refine zt_ldc (v := 1000000001) kX12_lean_9 wm_1314 ?_
    exact zt_iret kX12_lean_11 rfl H

set_option maxRecDepth 10000 in
theorem wX12_lean_44 {G : ZG} {d : Nat} {h : ZH} {Q : Option ZV → ZH → Prop} {x1 : Int32} {x2 : Int32} {x3 : Int32} 
  (H : (4 ≤ x3 → Q (some (zi x2)) h) ∧ (¬ 4 ≤ x3 → zC G (d + 3) mX12_columnOf [zr 5 0, zi x3] h (fun r2 h1 => ∃ y3 : Int32, r2 = some (zi y3) ∧ zC G (d + 3) mX12_columnOf [zr 5 0, zi x2] h1 (fun r5 h4 => ∃ y6 : Int32, r5 = some (zi y6) ∧ (y3 ≤ y6 → zT G (d + 4) mX12_lean 44 [zr 5 0, zi x1, zi x2, zi (x3 + 1)] [] h4 Q) ∧ (¬ y3 ≤ y6 → zT G (d + 4) mX12_lean 44 [zr 5 0, zi x1, zi x3, zi (x3 + 1)] [] h4 Q))))) :
  zT G (d + 4) mX12_lean 44 [zr 5 0, zi x1, zi x2, zi x3] [] h Q := by
  refine zt_iload_n kX12_lean_44 rfl ?_
  refine zt_iconst (v := 4) kX12_lean_45 rfl ?_
  refine zt_icmp_ge kX12_lean_46 (fun c => ?_) (fun c => ?_)
  · replace H := H.1 c
    refine zt_iload_n kX12_lean_70 rfl ?_
    exact zt_iret kX12_lean_71 rfl H
  · replace H := H.2 c
    refine zt_aload_n kX12_lean_49 rfl ?_
    refine zt_iload_n kX12_lean_50 rfl ?_
    refine zt_cV (as := [zi x3]) kX12_lean_51 sRX12_203 rfl (by decide) rfl (by simp) rfl H (fun r2 h1 H => ?_)
    obtain ⟨y3, rfl, H⟩ := H
    refine zt_aload_n kX12_lean_54 rfl ?_
    refine zt_iload_n kX12_lean_55 rfl ?_
    refine zt_cV (as := [zi x2]) kX12_lean_56 sRX12_203 rfl (by decide) rfl (by simp) rfl H (fun r5 h4 H => ?_)
    obtain ⟨y6, rfl, H⟩ := H
    refine zt_icmp_le kX12_lean_59 (fun c => ?_) (fun c => ?_)
    · replace H := H.1 c
      refine zt_iinc (v := (x3 + 1)) (L' := [zr 5 0, zi x1, zi x2, zi (x3 + 1)]) kX12_lean_64 rfl rfl (by decide) rfl ?_
      refine zt_goto kX12_lean_67 ?_
      exact H
    · replace H := H.2 c
      refine zt_iload_n kX12_lean_62 rfl ?_
      refine zt_istore_n (L' := [zr 5 0, zi x1, zi x3, zi x3]) kX12_lean_63 (by decide) rfl ?_
      refine zt_iinc (v := (x3 + 1)) (L' := [zr 5 0, zi x1, zi x3, zi (x3 + 1)]) kX12_lean_64 rfl rfl (by decide) rfl ?_
      refine zt_goto kX12_lean_67 ?_
      exact H

theorem kX12_highest_0 : zD cX12_highest 0 1 (.iload_n 1) 1 := by decide +kernel
theorem kX12_highest_1 : zD cX12_highest 1 2 (.iconst 0) 1 := by decide +kernel
theorem kX12_highest_2 : zD cX12_highest 2 3 (.iconst 1) 1 := by decide +kernel
theorem kX12_highest_3 : zD cX12_highest 3 6 (.invokestatic 53) 3 := by decide +kernel
theorem kX12_highest_6 : zB cX12_highest 6 9 11 (.ifCond .ne 5) 5 := by decide +kernel
theorem kX12_highest_9 : zD cX12_highest 9 10 (.iconst (-1)) 1 := by decide +kernel
theorem kX12_highest_10 : zD cX12_highest 10 11 (.ireturn) 1 := by decide +kernel
theorem kX12_highest_11 : zD cX12_highest 11 12 (.iconst 2) 1 := by decide +kernel
theorem kX12_highest_12 : zD cX12_highest 12 13 (.istore_n 2) 1 := by decide +kernel
theorem kX12_highest_13 : zD cX12_highest 13 14 (.iload_n 2) 1 := by decide +kernel
theorem kX12_highest_14 : zB cX12_highest 14 17 54 (.ifCond .lt 40) 40 := by decide +kernel
theorem kX12_highest_17 : zD cX12_highest 17 18 (.aload_n 0) 1 := by decide +kernel
theorem kX12_highest_18 : zD cX12_highest 18 21 (.getfield 9) 3 := by decide +kernel
theorem kX12_highest_21 : zD cX12_highest 21 22 (.iconst 0) 1 := by decide +kernel
theorem kX12_highest_22 : zD cX12_highest 22 23 (.iaload) 1 := by decide +kernel
theorem kX12_highest_23 : zD cX12_highest 23 24 (.iconst 4) 1 := by decide +kernel
theorem kX12_highest_24 : zD cX12_highest 24 25 (.iload_n 2) 1 := by decide +kernel
theorem kX12_highest_25 : zD cX12_highest 25 26 (.imul) 1 := by decide +kernel
theorem kX12_highest_26 : zD cX12_highest 26 27 (.ishr) 1 := by decide +kernel
theorem kX12_highest_27 : zD cX12_highest 27 29 (.bipush 15) 2 := by decide +kernel
theorem kX12_highest_29 : zD cX12_highest 29 30 (.iand) 1 := by decide +kernel
theorem kX12_highest_30 : zD cX12_highest 30 33 (.invokestatic 107) 3 := by decide +kernel
theorem kX12_highest_33 : zD cX12_highest 33 34 (.istore_n 3) 1 := by decide +kernel
theorem kX12_highest_34 : zD cX12_highest 34 35 (.iload_n 3) 1 := by decide +kernel
theorem kX12_highest_35 : zB cX12_highest 35 38 48 (.ifCond .le 13) 13 := by decide +kernel
theorem kX12_highest_38 : zD cX12_highest 38 39 (.iload_n 1) 1 := by decide +kernel
theorem kX12_highest_39 : zB cX12_highest 39 42 46 (.ifCond .ne 7) 7 := by decide +kernel
theorem kX12_highest_42 : zD cX12_highest 42 43 (.iload_n 2) 1 := by decide +kernel
theorem kX12_highest_43 : zB cX12_highest 43 46 47 (.goto 4) 4 := by decide +kernel
theorem kX12_highest_46 : zD cX12_highest 46 47 (.iload_n 3) 1 := by decide +kernel
theorem kX12_highest_47 : zD cX12_highest 47 48 (.ireturn) 1 := by decide +kernel
theorem kX12_highest_48 : zD cX12_highest 48 51 (.iinc 2 (-1)) 3 := by decide +kernel
theorem kX12_highest_51 : zB cX12_highest 51 54 13 (.goto (-38)) (-38) := by decide +kernel
theorem kX12_highest_54 : zD cX12_highest 54 56 (.bipush (-4)) 2 := by decide +kernel
theorem kX12_highest_56 : zD cX12_highest 56 57 (.ireturn) 1 := by decide +kernel
set_option maxRecDepth 10000 in
theorem wX12_highest_0 {G : ZG} {d : Nat} {h : ZH} {Q : Option ZV → ZH → Prop} {x1 : Int32} 
  (H : (((0 : Int32) ≤ x1 ∧ x1 ≤ (1 : Int32)) → zT G (d + 2) mX12_highest 13 [zr 5 0, zi x1, zi 2, zu] [] h Q) ∧ (¬ ((0 : Int32) ≤ x1 ∧ x1 ≤ (1 : Int32)) → Q (some (zi (-1))) h)) :
  zT G (d + 2) mX12_highest 0 [zr 5 0, zi x1, zu, zu] [] h Q := by
  refine zt_iload_n kX12_highest_0 rfl ?_
  refine zt_iconst (v := 0) kX12_highest_1 rfl ?_
  refine zt_iconst (v := 1) kX12_highest_2 rfl ?_
  refine zt_cS (as := [zi x1, zi 0, zi 1]) kX12_highest_3 sRX12_53 rfl (by simp) rfl (sX12_isIn _  ) (fun r h0 hq => ?_)
  obtain ⟨rfl, hh⟩ := hq
  replace hh := hh.symm
  subst hh
  refine zt_ifb_ne kX12_highest_6 (fun c => ?_) (fun c => ?_)
  · replace H := H.1 c
    refine zt_iconst (v := 2) kX12_highest_11 rfl ?_
    refine zt_istore_n (L' := [zr 5 0, zi x1, zi 2, zu]) kX12_highest_12 (by decide) rfl ?_
    exact H
  · replace H := H.2 c
    refine zt_iconst (v := (-1)) kX12_highest_9 rfl ?_
    exact zt_iret kX12_highest_10 rfl H

set_option maxRecDepth 10000 in
theorem wX12_highest_13 {G : ZG} {d : Nat} {h : ZH} {Q : Option ZV → ZH → Prop} {x1 : Int32} {x2 : Int32} 
  (H : (x2 < 0 → Q (some (zi (-4))) h) ∧ (¬ x2 < 0 → ((bitsI (((h.1 30 0 0) >>> ((4 * x2) &&& 31)) &&& 15)) ≤ 0 → zT G (d + 2) mX12_highest 13 [zr 5 0, zi x1, zi (x2 + (-1)), zu] [] h Q) ∧ (¬ (bitsI (((h.1 30 0 0) >>> ((4 * x2) &&& 31)) &&& 15)) ≤ 0 → (¬ x1 = 0 → Q (some (zi (bitsI (((h.1 30 0 0) >>> ((4 * x2) &&& 31)) &&& 15)))) h) ∧ (x1 = 0 → Q (some (zi x2)) h)))) :
  zT G (d + 2) mX12_highest 13 [zr 5 0, zi x1, zi x2, zu] [] h Q := by
  refine zt_iload_n kX12_highest_13 rfl ?_
  refine zt_if_lt kX12_highest_14 (fun c => ?_) (fun c => ?_)
  · replace H := H.1 c
    refine zt_bipush (v := (-4)) kX12_highest_54 rfl ?_
    exact zt_iret kX12_highest_56 rfl H
  · replace H := H.2 c
    refine zt_aload_n kX12_highest_17 rfl ?_
    refine zt_get (v := zr 30 0) kX12_highest_18 fRX12_9 rfl (by decide) rfl ?_
    refine zt_iconst (v := 0) kX12_highest_21 rfl ?_
    refine zt_ialdc 0 rfl kX12_highest_22 rfl (by decide) (zvp_dec (by decide)) ?_
    refine zt_iconst (v := 4) kX12_highest_23 rfl ?_
    refine zt_iload_n kX12_highest_24 rfl ?_
    refine zt_imul kX12_highest_25 ?_
    refine zt_ishr kX12_highest_26 ?_
    refine zt_bipush (v := 15) kX12_highest_27 rfl ?_
    refine zt_iand kX12_highest_29 ?_
    refine zt_cS (as := [zi (((h.1 30 0 0) >>> ((4 * x2) &&& 31)) &&& 15)]) kX12_highest_30 sRX12_107 rfl (by simp) rfl (sX12_bits _  ) (fun r h0 hq => ?_)
    obtain ⟨rfl, hh⟩ := hq
    replace hh := hh.symm
    subst hh
    refine zt_istore_n (L' := [zr 5 0, zi x1, zi x2, zi (bitsI (((h.1 30 0 0) >>> ((4 * x2) &&& 31)) &&& 15))]) kX12_highest_33 (by decide) rfl ?_
    refine zt_iload_n kX12_highest_34 rfl ?_
    refine zt_if_le kX12_highest_35 (fun c => ?_) (fun c => ?_)
    · replace H := H.1 c
      refine zt_iinc (v := (x2 + (-1))) (L' := [zr 5 0, zi x1, zi (x2 + (-1)), zi (bitsI (((h.1 30 0 0) >>> ((4 * x2) &&& 31)) &&& 15))]) kX12_highest_48 rfl rfl (by decide) rfl ?_
      refine zt_goto kX12_highest_51 ?_
      exact zt_sub [zr 5 0, zi x1, zi (x2 + (-1)), zu] ⟨rfl, ⟨rfl, ⟨rfl, trivial⟩⟩⟩ H
    · replace H := H.2 c
      refine zt_iload_n kX12_highest_38 rfl ?_
      refine zt_if_ne kX12_highest_39 (fun c => ?_) (fun c => ?_)
      · replace H := H.1 c
        refine zt_iload_n kX12_highest_46 rfl ?_
        exact zt_iret kX12_highest_47 rfl H
      · replace H := H.2 c
        refine zt_iload_n kX12_highest_42 rfl ?_
        refine zt_goto kX12_highest_43 ?_
        exact zt_iret kX12_highest_47 rfl H

theorem kX12_count_0 : zD cX12_count 0 1 (.iconst 0) 1 := by decide +kernel
theorem kX12_count_1 : zD cX12_count 1 2 (.istore_n 2) 1 := by decide +kernel
theorem kX12_count_2 : zD cX12_count 2 3 (.iload_n 1) 1 := by decide +kernel
theorem kX12_count_3 : decode cX12_count 3 = .ok (.tableswitch 145 0 5 #[37, 47, 54, 61, 97, 132], 37) := by decide +kernel
theorem kX12_count_40 : zD cX12_count 40 41 (.aload_n 0) 1 := by decide +kernel
theorem kX12_count_41 : zD cX12_count 41 44 (.getfield 9) 3 := by decide +kernel
theorem kX12_count_44 : zD cX12_count 44 45 (.iconst 0) 1 := by decide +kernel
theorem kX12_count_45 : zD cX12_count 45 46 (.iaload) 1 := by decide +kernel
theorem kX12_count_46 : zD cX12_count 46 49 (.invokestatic 107) 3 := by decide +kernel
theorem kX12_count_49 : zD cX12_count 49 50 (.ireturn) 1 := by decide +kernel
theorem kX12_count_50 : zD cX12_count 50 51 (.aload_n 0) 1 := by decide +kernel
theorem kX12_count_51 : zD cX12_count 51 54 (.getfield 9) 3 := by decide +kernel
theorem kX12_count_54 : zD cX12_count 54 55 (.iconst 0) 1 := by decide +kernel
theorem kX12_count_55 : zD cX12_count 55 56 (.iaload) 1 := by decide +kernel
theorem kX12_count_56 : zD cX12_count 56 57 (.ireturn) 1 := by decide +kernel
theorem kX12_count_57 : zD cX12_count 57 58 (.aload_n 0) 1 := by decide +kernel
theorem kX12_count_58 : zD cX12_count 58 61 (.getfield 9) 3 := by decide +kernel
theorem kX12_count_61 : zD cX12_count 61 62 (.iconst 1) 1 := by decide +kernel
theorem kX12_count_62 : zD cX12_count 62 63 (.iaload) 1 := by decide +kernel
theorem kX12_count_63 : zD cX12_count 63 64 (.ireturn) 1 := by decide +kernel
theorem kX12_count_64 : zD cX12_count 64 65 (.iconst 0) 1 := by decide +kernel
theorem kX12_count_65 : zD cX12_count 65 66 (.istore_n 3) 1 := by decide +kernel
theorem kX12_count_66 : zD cX12_count 66 67 (.iload_n 3) 1 := by decide +kernel
theorem kX12_count_67 : zD cX12_count 67 69 (.bipush 12) 2 := by decide +kernel
theorem kX12_count_69 : zB cX12_count 69 72 98 (.if_icmp .ge 29) 29 := by decide +kernel
theorem kX12_count_72 : zD cX12_count 72 73 (.iload_n 2) 1 := by decide +kernel
theorem kX12_count_73 : zD cX12_count 73 74 (.aload_n 0) 1 := by decide +kernel
theorem kX12_count_74 : zD cX12_count 74 75 (.iload_n 3) 1 := by decide +kernel
theorem kX12_count_75 : zD cX12_count 75 78 (.invokevirtual 133) 3 := by decide +kernel
theorem kX12_count_78 : zB cX12_count 78 81 89 (.ifCond .eq 11) 11 := by decide +kernel
theorem kX12_count_81 : zD cX12_count 81 82 (.aload_n 0) 1 := by decide +kernel
theorem kX12_count_82 : zD cX12_count 82 83 (.iload_n 3) 1 := by decide +kernel
theorem kX12_count_83 : zD cX12_count 83 86 (.invokevirtual 87) 3 := by decide +kernel
theorem kX12_count_86 : zB cX12_count 86 89 90 (.goto 4) 4 := by decide +kernel
theorem kX12_count_89 : zD cX12_count 89 90 (.iconst 0) 1 := by decide +kernel
theorem kX12_count_90 : zD cX12_count 90 91 (.iadd) 1 := by decide +kernel
theorem kX12_count_91 : zD cX12_count 91 92 (.istore_n 2) 1 := by decide +kernel
theorem kX12_count_92 : zD cX12_count 92 95 (.iinc 3 1) 3 := by decide +kernel
theorem kX12_count_95 : zB cX12_count 95 98 66 (.goto (-29)) (-29) := by decide +kernel
theorem kX12_count_98 : zD cX12_count 98 99 (.iload_n 2) 1 := by decide +kernel
theorem kX12_count_99 : zD cX12_count 99 100 (.ireturn) 1 := by decide +kernel
theorem kX12_count_100 : zD cX12_count 100 101 (.aload_n 0) 1 := by decide +kernel
theorem kX12_count_101 : zD cX12_count 101 102 (.aload_n 0) 1 := by decide +kernel
theorem kX12_count_102 : zD cX12_count 102 105 (.getfield 9) 3 := by decide +kernel
theorem kX12_count_105 : zD cX12_count 105 106 (.iconst 0) 1 := by decide +kernel
theorem kX12_count_106 : zD cX12_count 106 107 (.iaload) 1 := by decide +kernel
theorem kX12_count_107 : zD cX12_count 107 110 (.invokevirtual 94) 3 := by decide +kernel
theorem kX12_count_110 : zD cX12_count 110 111 (.iconst 0) 1 := by decide +kernel
theorem kX12_count_111 : zD cX12_count 111 112 (.istore_n 3) 1 := by decide +kernel
theorem kX12_count_112 : zD cX12_count 112 113 (.iload_n 3) 1 := by decide +kernel
theorem kX12_count_113 : zD cX12_count 113 115 (.bipush 12) 2 := by decide +kernel
theorem kX12_count_115 : zB cX12_count 115 118 133 (.if_icmp .ge 18) 18 := by decide +kernel
theorem kX12_count_118 : zD cX12_count 118 119 (.iload_n 2) 1 := by decide +kernel
theorem kX12_count_119 : zD cX12_count 119 120 (.aload_n 0) 1 := by decide +kernel
theorem kX12_count_120 : zD cX12_count 120 123 (.getfield 19) 3 := by decide +kernel
theorem kX12_count_123 : zD cX12_count 123 124 (.iload_n 3) 1 := by decide +kernel
theorem kX12_count_124 : zD cX12_count 124 125 (.iaload) 1 := by decide +kernel
theorem kX12_count_125 : zD cX12_count 125 126 (.iadd) 1 := by decide +kernel
theorem kX12_count_126 : zD cX12_count 126 127 (.istore_n 2) 1 := by decide +kernel
theorem kX12_count_127 : zD cX12_count 127 130 (.iinc 3 1) 3 := by decide +kernel
theorem kX12_count_130 : zB cX12_count 130 133 112 (.goto (-18)) (-18) := by decide +kernel
theorem kX12_count_133 : zD cX12_count 133 134 (.iload_n 2) 1 := by decide +kernel
theorem kX12_count_134 : zD cX12_count 134 135 (.ireturn) 1 := by decide +kernel
theorem kX12_count_135 : zD cX12_count 135 136 (.aload_n 0) 1 := by decide +kernel
theorem kX12_count_136 : zD cX12_count 136 139 (.getfield 9) 3 := by decide +kernel
theorem kX12_count_139 : zD cX12_count 139 140 (.iconst 0) 1 := by decide +kernel
theorem kX12_count_140 : zD cX12_count 140 141 (.iaload) 1 := by decide +kernel
theorem kX12_count_141 : zD cX12_count 141 143 (.bipush 15) 2 := by decide +kernel
theorem kX12_count_143 : zD cX12_count 143 144 (.iand) 1 := by decide +kernel
theorem kX12_count_144 : zD cX12_count 144 147 (.invokestatic 107) 3 := by decide +kernel
theorem kX12_count_147 : zD cX12_count 147 148 (.ireturn) 1 := by decide +kernel
theorem kX12_count_148 : zD cX12_count 148 149 (.iconst (-1)) 1 := by decide +kernel
theorem kX12_count_149 : zD cX12_count 149 150 (.ireturn) 1 := by decide +kernel
set_option maxRecDepth 10000 in
theorem wX12_count_0 {G : ZG} {d : Nat} {h : ZH} {Q : Option ZV → ZH → Prop} {x1 : Int32} 
  (H : (x1 = 0 → Q (some (zi (bitsI (h.1 30 0 0)))) h) ∧ (¬ x1 = 0 → (x1 = 1 → Q (some (zi (h.1 30 0 0))) h) ∧ (¬ x1 = 1 → (x1 = 2 → Q (some (zi (h.1 30 0 1))) h) ∧ (¬ x1 = 2 → (x1 = 3 → zT G (d + 5) mX12_count 66 [zr 5 0, zi x1, zi 0, zi 0] [] h Q) ∧ (¬ x1 = 3 → (x1 = 4 → zC G (d + 4) mX12_loads [zr 5 0, zi (h.1 30 0 0)] h (fun r2 h1 => r2 = none ∧ zT G (d + 5) mX12_count 112 [zr 5 0, zi x1, zi 0, zi 0] [] h1 Q)) ∧ (¬ x1 = 4 → (x1 = 5 → Q (some (zi (bitsI ((h.1 30 0 0) &&& 15)))) h) ∧ (¬ x1 = 5 → Q (some (zi (-1))) h))))))) :
  zT G (d + 5) mX12_count 0 [zr 5 0, zi x1, zu, zu] [] h Q := by
  refine zt_iconst (v := 0) kX12_count_0 rfl ?_
  refine zt_istore_n (L' := [zr 5 0, zi x1, zi 0, zu]) kX12_count_1 (by decide) rfl ?_
  refine zt_iload_n kX12_count_2 rfl ?_
  rcases Classical.em (x1 = 0) with c0 | c0
  · replace H := H.1 c0
    refine zt_tabIn (tgt := 40) kX12_count_3 (by rw [c0]; decide) (by rw [c0]; decide) (by rw [c0]; rfl) (by decide) ?_
    refine zt_aload_n kX12_count_40 rfl ?_
    refine zt_get (v := zr 30 0) kX12_count_41 fRX12_9 rfl (by decide) rfl ?_
    refine zt_iconst (v := 0) kX12_count_44 rfl ?_
    refine zt_ialdc 0 rfl kX12_count_45 rfl (by decide) (zvp_dec (by decide)) ?_
    refine zt_cS (as := [zi (h.1 30 0 0)]) kX12_count_46 sRX12_107 rfl (by simp) rfl (sX12_bits _  ) (fun r h0 hq => ?_)
    obtain ⟨rfl, hh⟩ := hq
    replace hh := hh.symm
    subst hh
    exact zt_iret kX12_count_49 rfl H
  replace H := H.2 c0
  rcases Classical.em (x1 = 1) with c1 | c1
  · replace H := H.1 c1
    refine zt_tabIn (tgt := 50) kX12_count_3 (by rw [c1]; decide) (by rw [c1]; decide) (by rw [c1]; rfl) (by decide) ?_
    refine zt_aload_n kX12_count_50 rfl ?_
    refine zt_get (v := zr 30 0) kX12_count_51 fRX12_9 rfl (by decide) rfl ?_
    refine zt_iconst (v := 0) kX12_count_54 rfl ?_
    refine zt_ialdc 0 rfl kX12_count_55 rfl (by decide) (zvp_dec (by decide)) ?_
    exact zt_iret kX12_count_56 rfl H
  replace H := H.2 c1
  rcases Classical.em (x1 = 2) with c2 | c2
  · replace H := H.1 c2
    refine zt_tabIn (tgt := 57) kX12_count_3 (by rw [c2]; decide) (by rw [c2]; decide) (by rw [c2]; rfl) (by decide) ?_
    refine zt_aload_n kX12_count_57 rfl ?_
    refine zt_get (v := zr 30 0) kX12_count_58 fRX12_9 rfl (by decide) rfl ?_
    refine zt_iconst (v := 1) kX12_count_61 rfl ?_
    refine zt_ialdc 1 rfl kX12_count_62 rfl (by decide) (zvp_dec (by decide)) ?_
    exact zt_iret kX12_count_63 rfl H
  replace H := H.2 c2
  rcases Classical.em (x1 = 3) with c3 | c3
  · replace H := H.1 c3
    refine zt_tabIn (tgt := 64) kX12_count_3 (by rw [c3]; decide) (by rw [c3]; decide) (by rw [c3]; rfl) (by decide) ?_
    refine zt_iconst (v := 0) kX12_count_64 rfl ?_
    refine zt_istore_n (L' := [zr 5 0, zi x1, zi 0, zi 0]) kX12_count_65 (by decide) rfl ?_
    exact H
  replace H := H.2 c3
  rcases Classical.em (x1 = 4) with c4 | c4
  · replace H := H.1 c4
    refine zt_tabIn (tgt := 100) kX12_count_3 (by rw [c4]; decide) (by rw [c4]; decide) (by rw [c4]; rfl) (by decide) ?_
    refine zt_aload_n kX12_count_100 rfl ?_
    refine zt_aload_n kX12_count_101 rfl ?_
    refine zt_get (v := zr 30 0) kX12_count_102 fRX12_9 rfl (by decide) rfl ?_
    refine zt_iconst (v := 0) kX12_count_105 rfl ?_
    refine zt_ialdc 0 rfl kX12_count_106 rfl (by decide) (zvp_dec (by decide)) ?_
    refine zt_cV (as := [zi (h.1 30 0 0)]) kX12_count_107 sRX12_94 rfl (by decide) rfl (by simp) rfl H (fun r2 h1 H => ?_)
    obtain ⟨rfl, H⟩ := H
    refine zt_iconst (v := 0) kX12_count_110 rfl ?_
    refine zt_istore_n (L' := [zr 5 0, zi x1, zi 0, zi 0]) kX12_count_111 (by decide) rfl ?_
    exact H
  replace H := H.2 c4
  rcases Classical.em (x1 = 5) with c5 | c5
  · replace H := H.1 c5
    refine zt_tabIn (tgt := 135) kX12_count_3 (by rw [c5]; decide) (by rw [c5]; decide) (by rw [c5]; rfl) (by decide) ?_
    refine zt_aload_n kX12_count_135 rfl ?_
    refine zt_get (v := zr 30 0) kX12_count_136 fRX12_9 rfl (by decide) rfl ?_
    refine zt_iconst (v := 0) kX12_count_139 rfl ?_
    refine zt_ialdc 0 rfl kX12_count_140 rfl (by decide) (zvp_dec (by decide)) ?_
    refine zt_bipush (v := 15) kX12_count_141 rfl ?_
    refine zt_iand kX12_count_143 ?_
    refine zt_cS (as := [zi ((h.1 30 0 0) &&& 15)]) kX12_count_144 sRX12_107 rfl (by simp) rfl (sX12_bits _  ) (fun r h0 hq => ?_)
    obtain ⟨rfl, hh⟩ := hq
    replace hh := hh.symm
    subst hh
    exact zt_iret kX12_count_147 rfl H
  replace H := H.2 c5
  refine zt_tabOut (tgt := 148) kX12_count_3 (by have n0 := lv_neT (a := 0) c0 rfl; have n1 := lv_neT (a := 1) c1 rfl; have n2 := lv_neT (a := 2) c2 rfl; have n3 := lv_neT (a := 3) c3 rfl; have n4 := lv_neT (a := 4) c4 rfl; have n5 := lv_neT (a := 5) c5 rfl; omega) (by decide) ?_
  refine zt_iconst (v := (-1)) kX12_count_148 rfl ?_
  exact zt_iret kX12_count_149 rfl H

set_option maxRecDepth 10000 in
theorem wX12_count_66 {G : ZG} {d : Nat} {h : ZH} {Q : Option ZV → ZH → Prop} {x1 : Int32} {x2 : Int32} {x3 : Int32} 
  (H : (12 ≤ x3 → Q (some (zi x2)) h) ∧ (¬ 12 ≤ x3 → (¬ (hasI (h.1 30 0 0) x3) → zT G (d + 5) mX12_count 66 [zr 5 0, zi x1, zi (x2 + 0), zi (x3 + 1)] [] h Q) ∧ ((hasI (h.1 30 0 0) x3) → vp_in x3 12 ∧ (zT G (d + 5) mX12_count 66 [zr 5 0, zi x1, zi (x2 + (wgtI (kindI h x3) (figI h x3))), zi (x3 + 1)] [] h Q)))) :
  zT G (d + 5) mX12_count 66 [zr 5 0, zi x1, zi x2, zi x3] [] h Q := by
  refine zt_iload_n kX12_count_66 rfl ?_
  refine zt_bipush (v := 12) kX12_count_67 rfl ?_
  refine zt_icmp_ge kX12_count_69 (fun c => ?_) (fun c => ?_)
  · replace H := H.1 c
    refine zt_iload_n kX12_count_98 rfl ?_
    exact zt_iret kX12_count_99 rfl H
  · replace H := H.2 c
    refine zt_iload_n kX12_count_72 rfl ?_
    refine zt_aload_n kX12_count_73 rfl ?_
    refine zt_iload_n kX12_count_74 rfl ?_
    refine zt_cV (as := [zi x3]) kX12_count_75 sRX12_133 rfl (by decide) rfl (by simp) rfl (sX12_isThere _  ) (fun r h0 hq => ?_)
    obtain ⟨rfl, hh⟩ := hq
    replace hh := hh.symm
    subst hh
    refine zt_ifb_eq kX12_count_78 (fun c => ?_) (fun c => ?_)
    · replace H := H.1 c
      refine zt_iconst (v := 0) kX12_count_89 rfl ?_
      refine zt_iadd kX12_count_90 ?_
      refine zt_istore_n (L' := [zr 5 0, zi x1, zi (x2 + 0), zi x3]) kX12_count_91 (by decide) rfl ?_
      refine zt_iinc (v := (x3 + 1)) (L' := [zr 5 0, zi x1, zi (x2 + 0), zi (x3 + 1)]) kX12_count_92 rfl rfl (by decide) rfl ?_
      refine zt_goto kX12_count_95 ?_
      exact H
    · replace H := H.2 c
      refine zt_aload_n kX12_count_81 rfl ?_
      refine zt_iload_n kX12_count_82 rfl ?_
      obtain ⟨pp0, H⟩ := H
      refine zt_cV (as := [zi x3]) kX12_count_83 sRX12_87 rfl (by decide) rfl (by simp) rfl (sX12_weight _  pp0) (fun r h0 hq => ?_)
      obtain ⟨rfl, hh⟩ := hq
      replace hh := hh.symm
      subst hh
      refine zt_goto kX12_count_86 ?_
      refine zt_iadd kX12_count_90 ?_
      refine zt_istore_n (L' := [zr 5 0, zi x1, zi (x2 + (wgtI (kindI h x3) (figI h x3))), zi x3]) kX12_count_91 (by decide) rfl ?_
      refine zt_iinc (v := (x3 + 1)) (L' := [zr 5 0, zi x1, zi (x2 + (wgtI (kindI h x3) (figI h x3))), zi (x3 + 1)]) kX12_count_92 rfl rfl (by decide) rfl ?_
      refine zt_goto kX12_count_95 ?_
      exact H

set_option maxRecDepth 10000 in
theorem wX12_count_112 {G : ZG} {d : Nat} {h : ZH} {Q : Option ZV → ZH → Prop} {x1 : Int32} {x2 : Int32} {x3 : Int32} 
  (H : (12 ≤ x3 → Q (some (zi x2)) h) ∧ (¬ 12 ≤ x3 → vp_in x3 12 ∧ zT G (d + 5) mX12_count 112 [zr 5 0, zi x1, zi (x2 + (h.1 33 0 x3.toNatClampNeg)), zi (x3 + 1)] [] h Q)) :
  zT G (d + 5) mX12_count 112 [zr 5 0, zi x1, zi x2, zi x3] [] h Q := by
  refine zt_iload_n kX12_count_112 rfl ?_
  refine zt_bipush (v := 12) kX12_count_113 rfl ?_
  refine zt_icmp_ge kX12_count_115 (fun c => ?_) (fun c => ?_)
  · replace H := H.1 c
    refine zt_iload_n kX12_count_133 rfl ?_
    exact zt_iret kX12_count_134 rfl H
  · replace H := H.2 c
    refine zt_iload_n kX12_count_118 rfl ?_
    refine zt_aload_n kX12_count_119 rfl ?_
    refine zt_get (v := zr 33 0) kX12_count_120 fRX12_19 rfl (by decide) rfl ?_
    refine zt_iload_n kX12_count_123 rfl ?_
    obtain ⟨hv, H⟩ := H
    refine zt_iald kX12_count_124 rfl (by decide) hv ?_
    refine zt_iadd kX12_count_125 ?_
    refine zt_istore_n (L' := [zr 5 0, zi x1, zi (x2 + (h.1 33 0 x3.toNatClampNeg)), zi x3]) kX12_count_126 (by decide) rfl ?_
    refine zt_iinc (v := (x3 + 1)) (L' := [zr 5 0, zi x1, zi (x2 + (h.1 33 0 x3.toNatClampNeg)), zi (x3 + 1)]) kX12_count_127 rfl rfl (by decide) rfl ?_
    refine zt_goto kX12_count_130 ?_
    exact H

theorem kX12_cost_0 : zD cX12_cost 0 1 (.aload_n 0) 1 := by decide +kernel
theorem kX12_cost_1 : zD cX12_cost 1 2 (.iload_n 1) 1 := by decide +kernel
theorem kX12_cost_2 : zD cX12_cost 2 5 (.invokevirtual 160) 3 := by decide +kernel
theorem kX12_cost_5 : zD cX12_cost 5 6 (.istore_n 2) 1 := by decide +kernel
theorem kX12_cost_6 : zD cX12_cost 6 7 (.iload_n 2) 1 := by decide +kernel
theorem kX12_cost_7 : zB cX12_cost 7 10 14 (.ifCond .eq 7) 7 := by decide +kernel
theorem kX12_cost_10 : zD cX12_cost 10 11 (.iload_n 2) 1 := by decide +kernel
theorem kX12_cost_11 : zB cX12_cost 11 14 29 (.goto 18) 18 := by decide +kernel
theorem kX12_cost_14 : zD cX12_cost 14 15 (.aload_n 0) 1 := by decide +kernel
theorem kX12_cost_15 : zD cX12_cost 15 18 (.getfield 38) 3 := by decide +kernel
theorem kX12_cost_18 : zD cX12_cost 18 19 (.iload_n 1) 1 := by decide +kernel
theorem kX12_cost_19 : zD cX12_cost 19 20 (.iaload) 1 := by decide +kernel
theorem kX12_cost_20 : zD cX12_cost 20 21 (.aload_n 0) 1 := by decide +kernel
theorem kX12_cost_21 : zD cX12_cost 21 24 (.getfield 41) 3 := by decide +kernel
theorem kX12_cost_24 : zD cX12_cost 24 25 (.iload_n 1) 1 := by decide +kernel
theorem kX12_cost_25 : zD cX12_cost 25 26 (.iaload) 1 := by decide +kernel
theorem kX12_cost_26 : zD cX12_cost 26 29 (.invokestatic 244) 3 := by decide +kernel
theorem kX12_cost_29 : zD cX12_cost 29 30 (.ireturn) 1 := by decide +kernel
set_option maxRecDepth 10000 in
theorem wX12_cost_0 {G : ZG} {d : Nat} {h : ZH} {Q : Option ZV → ZH → Prop} {x1 : Int32} 
  (H : ((wKeptI h x1) = 0 → vp_in x1 8 ∧ vp_in x1 8 ∧ Q (some (zi (costI (h.1 39 0 x1.toNatClampNeg) (h.1 40 0 x1.toNatClampNeg)))) h) ∧ (¬ (wKeptI h x1) = 0 → Q (some (zi (wKeptI h x1))) h)) :
  zT G (d + 4) mX12_cost 0 [zr 5 0, zi x1, zu] [] h Q := by
  refine zt_aload_n kX12_cost_0 rfl ?_
  refine zt_iload_n kX12_cost_1 rfl ?_
  refine zt_cV (as := [zi x1]) kX12_cost_2 sRX12_160 rfl (by decide) rfl (by simp) rfl (sX12_wrongKept _  ) (fun r h0 hq => ?_)
  obtain ⟨rfl, hh⟩ := hq
  replace hh := hh.symm
  subst hh
  refine zt_istore_n (L' := [zr 5 0, zi x1, zi (wKeptI h x1)]) kX12_cost_5 (by decide) rfl ?_
  refine zt_iload_n kX12_cost_6 rfl ?_
  refine zt_if_eq kX12_cost_7 (fun c => ?_) (fun c => ?_)
  · replace H := H.1 c
    refine zt_aload_n kX12_cost_14 rfl ?_
    refine zt_get (v := zr 39 0) kX12_cost_15 fRX12_38 rfl (by decide) rfl ?_
    refine zt_iload_n kX12_cost_18 rfl ?_
    obtain ⟨hv, H⟩ := H
    refine zt_iald kX12_cost_19 rfl (by decide) hv ?_
    refine zt_aload_n kX12_cost_20 rfl ?_
    refine zt_get (v := zr 40 0) kX12_cost_21 fRX12_41 rfl (by decide) rfl ?_
    refine zt_iload_n kX12_cost_24 rfl ?_
    obtain ⟨hv, H⟩ := H
    refine zt_iald kX12_cost_25 rfl (by decide) hv ?_
    refine zt_cS (as := [zi (h.1 39 0 x1.toNatClampNeg), zi (h.1 40 0 x1.toNatClampNeg)]) kX12_cost_26 sRX12_244 rfl (by simp) rfl (sX12_costBy _  ) (fun r h0 hq => ?_)
    obtain ⟨rfl, hh⟩ := hq
    replace hh := hh.symm
    subst hh
    exact zt_iret kX12_cost_29 rfl H
  · replace H := H.2 c
    refine zt_iload_n kX12_cost_10 rfl ?_
    refine zt_goto kX12_cost_11 ?_
    exact zt_iret kX12_cost_29 rfl H

