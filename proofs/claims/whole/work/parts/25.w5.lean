/-! ===== the bytecode of these methods, walked (by program): X12_settled ===== -/
theorem kX12_settled_0 : zD cX12_settled 0 1 (.iload_n 1) 1 := by decide +kernel
theorem kX12_settled_1 : zD cX12_settled 1 2 (.istore_n 2) 1 := by decide +kernel
theorem kX12_settled_2 : zD cX12_settled 2 3 (.aload_n 0) 1 := by decide +kernel
theorem kX12_settled_3 : zD cX12_settled 3 4 (.iconst 0) 1 := by decide +kernel
theorem kX12_settled_4 : zD cX12_settled 4 7 (.putfield 90) 3 := by decide +kernel
theorem kX12_settled_7 : zD cX12_settled 7 8 (.iconst (-1)) 1 := by decide +kernel
theorem kX12_settled_8 : zD cX12_settled 8 9 (.istore_n 3) 1 := by decide +kernel
theorem kX12_settled_9 : zD cX12_settled 9 10 (.iload_n 3) 1 := by decide +kernel
theorem kX12_settled_10 : zB cX12_settled 10 13 105 (.ifCond .eq 95) 95 := by decide +kernel
theorem kX12_settled_13 : zD cX12_settled 13 14 (.aload_n 0) 1 := by decide +kernel
theorem kX12_settled_14 : zD cX12_settled 14 15 (.iload_n 2) 1 := by decide +kernel
theorem kX12_settled_15 : zD cX12_settled 15 18 (.invokevirtual 94) 3 := by decide +kernel
theorem kX12_settled_18 : zD cX12_settled 18 19 (.iconst 0) 1 := by decide +kernel
theorem kX12_settled_19 : zD cX12_settled 19 20 (.istore_n 3) 1 := by decide +kernel
theorem kX12_settled_20 : zD cX12_settled 20 21 (.iconst 0) 1 := by decide +kernel
theorem kX12_settled_21 : zD cX12_settled 21 23 (.istore 4) 2 := by decide +kernel
theorem kX12_settled_23 : zD cX12_settled 23 25 (.iload 4) 2 := by decide +kernel
theorem kX12_settled_25 : zD cX12_settled 25 27 (.bipush 12) 2 := by decide +kernel
theorem kX12_settled_27 : zB cX12_settled 27 30 78 (.if_icmp .ge 51) 51 := by decide +kernel
theorem kX12_settled_30 : zD cX12_settled 30 31 (.iload_n 2) 1 := by decide +kernel
theorem kX12_settled_31 : zD cX12_settled 31 33 (.iload 4) 2 := by decide +kernel
theorem kX12_settled_33 : zD cX12_settled 33 36 (.invokestatic 57) 3 := by decide +kernel
theorem kX12_settled_36 : zB cX12_settled 36 39 72 (.ifCond .eq 36) 36 := by decide +kernel
theorem kX12_settled_39 : zD cX12_settled 39 40 (.aload_n 0) 1 := by decide +kernel
theorem kX12_settled_40 : zD cX12_settled 40 41 (.iload_n 2) 1 := by decide +kernel
theorem kX12_settled_41 : zD cX12_settled 41 43 (.iload 4) 2 := by decide +kernel
theorem kX12_settled_43 : zD cX12_settled 43 46 (.invokevirtual 98) 3 := by decide +kernel
theorem kX12_settled_46 : zB cX12_settled 46 49 65 (.ifCond .eq 19) 19 := by decide +kernel
theorem kX12_settled_49 : zD cX12_settled 49 50 (.aload_n 0) 1 := by decide +kernel
theorem kX12_settled_50 : zD cX12_settled 50 53 (.getfield 19) 3 := by decide +kernel
theorem kX12_settled_53 : zD cX12_settled 53 55 (.iload 4) 2 := by decide +kernel
theorem kX12_settled_55 : zD cX12_settled 55 56 (.iaload) 1 := by decide +kernel
theorem kX12_settled_56 : zD cX12_settled 56 57 (.aload_n 0) 1 := by decide +kernel
theorem kX12_settled_57 : zD cX12_settled 57 59 (.iload 4) 2 := by decide +kernel
theorem kX12_settled_59 : zD cX12_settled 59 62 (.invokevirtual 101) 3 := by decide +kernel
theorem kX12_settled_62 : zB cX12_settled 62 65 72 (.if_icmp .le 10) 10 := by decide +kernel
theorem kX12_settled_65 : zD cX12_settled 65 66 (.iload_n 3) 1 := by decide +kernel
theorem kX12_settled_66 : zD cX12_settled 66 67 (.iconst 1) 1 := by decide +kernel
theorem kX12_settled_67 : zD cX12_settled 67 69 (.iload 4) 2 := by decide +kernel
theorem kX12_settled_69 : zD cX12_settled 69 70 (.ishl) 1 := by decide +kernel
theorem kX12_settled_70 : zD cX12_settled 70 71 (.ior) 1 := by decide +kernel
theorem kX12_settled_71 : zD cX12_settled 71 72 (.istore_n 3) 1 := by decide +kernel
theorem kX12_settled_72 : zD cX12_settled 72 75 (.iinc 4 1) 3 := by decide +kernel
theorem kX12_settled_75 : zB cX12_settled 75 78 23 (.goto (-52)) (-52) := by decide +kernel
theorem kX12_settled_78 : zD cX12_settled 78 79 (.iload_n 2) 1 := by decide +kernel
theorem kX12_settled_79 : zD cX12_settled 79 80 (.iload_n 3) 1 := by decide +kernel
theorem kX12_settled_80 : zD cX12_settled 80 81 (.iconst (-1)) 1 := by decide +kernel
theorem kX12_settled_81 : zD cX12_settled 81 82 (.ixor) 1 := by decide +kernel
theorem kX12_settled_82 : zD cX12_settled 82 83 (.iand) 1 := by decide +kernel
theorem kX12_settled_83 : zD cX12_settled 83 84 (.istore_n 2) 1 := by decide +kernel
theorem kX12_settled_84 : zD cX12_settled 84 85 (.aload_n 0) 1 := by decide +kernel
theorem kX12_settled_85 : zD cX12_settled 85 86 (.dup) 1 := by decide +kernel
theorem kX12_settled_86 : zD cX12_settled 86 89 (.getfield 90) 3 := by decide +kernel
theorem kX12_settled_89 : zD cX12_settled 89 90 (.iload_n 3) 1 := by decide +kernel
theorem kX12_settled_90 : zB cX12_settled 90 93 97 (.ifCond .eq 7) 7 := by decide +kernel
theorem kX12_settled_93 : zD cX12_settled 93 94 (.iconst 1) 1 := by decide +kernel
theorem kX12_settled_94 : zB cX12_settled 94 97 98 (.goto 4) 4 := by decide +kernel
theorem kX12_settled_97 : zD cX12_settled 97 98 (.iconst 0) 1 := by decide +kernel
theorem kX12_settled_98 : zD cX12_settled 98 99 (.iadd) 1 := by decide +kernel
theorem kX12_settled_99 : zD cX12_settled 99 102 (.putfield 90) 3 := by decide +kernel
theorem kX12_settled_102 : zB cX12_settled 102 105 9 (.goto (-93)) (-93) := by decide +kernel
theorem kX12_settled_105 : zD cX12_settled 105 106 (.iload_n 2) 1 := by decide +kernel
theorem kX12_settled_106 : zD cX12_settled 106 107 (.ireturn) 1 := by decide +kernel
set_option maxRecDepth 10000 in
theorem wX12_settled_0 {G : ZG} {d : Nat} {h : ZH} {Q : Option ZV → ZH → Prop} {x1 : Int32} 
  (H : ∀ h1 : ZH, h1 = zs1 h 5 0 5 0 → zT G (d + 5) mX12_settled 9 [zr 5 0, zi x1, zi x1, zi (-1), zu] [] h1 Q) :
  zT G (d + 5) mX12_settled 0 [zr 5 0, zi x1, zu, zu, zu] [] h Q := by
  refine zt_iload_n kX12_settled_0 rfl ?_
  refine zt_istore_n (L' := [zr 5 0, zi x1, zi x1, zu, zu]) kX12_settled_1 (by decide) rfl ?_
  refine zt_aload_n kX12_settled_2 rfl ?_
  refine zt_iconst (v := 0) kX12_settled_3 rfl ?_
  refine zt_put kX12_settled_4 fRX12_90 pRX12_5 rfl (by decide) rfl ?_
  refine zt_heap (fun h1 eh1 => ?_)
  replace H := H h1 eh1
  refine zt_iconst (v := (-1)) kX12_settled_7 rfl ?_
  refine zt_istore_n (L' := [zr 5 0, zi x1, zi x1, zi (-1), zu]) kX12_settled_8 (by decide) rfl ?_
  exact H

set_option maxRecDepth 10000 in
theorem wX12_settled_9 {G : ZG} {d : Nat} {h : ZH} {Q : Option ZV → ZH → Prop} {x1 : Int32} {x2 : Int32} {x3 : Int32} 
  (H : (x3 = 0 → Q (some (zi x2)) h) ∧ (¬ x3 = 0 → zC G (d + 4) mX12_loads [zr 5 0, zi x2] h (fun r2 h1 => r2 = none ∧ zT G (d + 5) mX12_settled 23 [zr 5 0, zi x1, zi x2, zi 0, zi 0] [] h1 Q))) :
  zT G (d + 5) mX12_settled 9 [zr 5 0, zi x1, zi x2, zi x3, zu] [] h Q := by
  refine zt_iload_n kX12_settled_9 rfl ?_
  refine zt_if_eq kX12_settled_10 (fun c => ?_) (fun c => ?_)
  · replace H := H.1 c
    refine zt_iload_n kX12_settled_105 rfl ?_
    exact zt_iret kX12_settled_106 rfl H
  · replace H := H.2 c
    refine zt_aload_n kX12_settled_13 rfl ?_
    refine zt_iload_n kX12_settled_14 rfl ?_
    refine zt_cV (as := [zi x2]) kX12_settled_15 sRX12_94 rfl (by decide) rfl (by simp) rfl H (fun r2 h1 H => ?_)
    obtain ⟨rfl, H⟩ := H
    refine zt_iconst (v := 0) kX12_settled_18 rfl ?_
    refine zt_istore_n (L' := [zr 5 0, zi x1, zi x2, zi 0, zu]) kX12_settled_19 (by decide) rfl ?_
    refine zt_iconst (v := 0) kX12_settled_20 rfl ?_
    refine zt_istore (L' := [zr 5 0, zi x1, zi x2, zi 0, zi 0]) kX12_settled_21 (by decide) rfl ?_
    exact H

set_option maxRecDepth 10000 in
theorem wX12_settled_23 {G : ZG} {d : Nat} {h : ZH} {Q : Option ZV → ZH → Prop} {x1 : Int32} {x2 : Int32} {x3 : Int32} {x4 : Int32} 
  (H : (12 ≤ x4 → (x3 = 0 → ∀ h1 : ZH, h1 = zs1 h 5 0 5 ((h.1 5 0 5) + 0) → zT G (d + 5) mX12_settled 9 [zr 5 0, zi x1, zi (x2 &&& (x3 ^^^ (-1))), zi x3, zu] [] h1 Q) ∧ (¬ x3 = 0 → ∀ h2 : ZH, h2 = zs1 h 5 0 5 ((h.1 5 0 5) + 1) → zT G (d + 5) mX12_settled 9 [zr 5 0, zi x1, zi (x2 &&& (x3 ^^^ (-1))), zi x3, zu] [] h2 Q)) ∧ (¬ 12 ≤ x4 → (¬ (hasI x2 x4) → zT G (d + 5) mX12_settled 23 [zr 5 0, zi x1, zi x2, zi x3, zi (x4 + 1)] [] h Q) ∧ ((hasI x2 x4) → vp_in x4 12 ∧ ((¬ (heldI h x2 x4) → zT G (d + 5) mX12_settled 23 [zr 5 0, zi x1, zi x2, zi (x3 ||| ((1 : Int32) <<< (x4 &&& 31))), zi (x4 + 1)] [] h Q) ∧ ((heldI h x2 x4) → vp_in x4 12 ∧ vp_in x4 12 ∧ (((h.1 33 0 x4.toNatClampNeg) ≤ (brsI (kindI h x4) (figI h x4)) → zT G (d + 5) mX12_settled 23 [zr 5 0, zi x1, zi x2, zi x3, zi (x4 + 1)] [] h Q) ∧ (¬ (h.1 33 0 x4.toNatClampNeg) ≤ (brsI (kindI h x4) (figI h x4)) → zT G (d + 5) mX12_settled 23 [zr 5 0, zi x1, zi x2, zi (x3 ||| ((1 : Int32) <<< (x4 &&& 31))), zi (x4 + 1)] [] h Q))))))) :
  zT G (d + 5) mX12_settled 23 [zr 5 0, zi x1, zi x2, zi x3, zi x4] [] h Q := by
  refine zt_iload kX12_settled_23 rfl ?_
  refine zt_bipush (v := 12) kX12_settled_25 rfl ?_
  refine zt_icmp_ge kX12_settled_27 (fun c => ?_) (fun c => ?_)
  · replace H := H.1 c
    refine zt_iload_n kX12_settled_78 rfl ?_
    refine zt_iload_n kX12_settled_79 rfl ?_
    refine zt_iconst (v := (-1)) kX12_settled_80 rfl ?_
    refine zt_ixor kX12_settled_81 ?_
    refine zt_iand kX12_settled_82 ?_
    refine zt_istore_n (L' := [zr 5 0, zi x1, zi (x2 &&& (x3 ^^^ (-1))), zi x3, zi x4]) kX12_settled_83 (by decide) rfl ?_
    refine zt_aload_n kX12_settled_84 rfl ?_
    refine zt_dup kX12_settled_85 (by intro x q; cases q) ?_
    refine zt_get (v := zi (h.1 5 0 5)) kX12_settled_86 fRX12_90 rfl (by decide) rfl ?_
    refine zt_iload_n kX12_settled_89 rfl ?_
    refine zt_if_eq kX12_settled_90 (fun c => ?_) (fun c => ?_)
    · replace H := H.1 c
      refine zt_iconst (v := 0) kX12_settled_97 rfl ?_
      refine zt_iadd kX12_settled_98 ?_
      refine zt_put kX12_settled_99 fRX12_90 pRX12_5 rfl (by decide) rfl ?_
      refine zt_heap (fun h1 eh1 => ?_)
      replace H := H h1 eh1
      refine zt_goto kX12_settled_102 ?_
      exact zt_sub [zr 5 0, zi x1, zi (x2 &&& (x3 ^^^ (-1))), zi x3, zu] ⟨rfl, ⟨rfl, ⟨rfl, ⟨rfl, trivial⟩⟩⟩⟩ H
    · replace H := H.2 c
      refine zt_iconst (v := 1) kX12_settled_93 rfl ?_
      refine zt_goto kX12_settled_94 ?_
      refine zt_iadd kX12_settled_98 ?_
      refine zt_put kX12_settled_99 fRX12_90 pRX12_5 rfl (by decide) rfl ?_
      refine zt_heap (fun h2 eh2 => ?_)
      replace H := H h2 eh2
      refine zt_goto kX12_settled_102 ?_
      exact zt_sub [zr 5 0, zi x1, zi (x2 &&& (x3 ^^^ (-1))), zi x3, zu] ⟨rfl, ⟨rfl, ⟨rfl, ⟨rfl, trivial⟩⟩⟩⟩ H
  · replace H := H.2 c
    refine zt_iload_n kX12_settled_30 rfl ?_
    refine zt_iload kX12_settled_31 rfl ?_
    refine zt_cS (as := [zi x2, zi x4]) kX12_settled_33 sRX12_57 rfl (by simp) rfl (sX12_has _  ) (fun r h0 hq => ?_)
    obtain ⟨rfl, hh⟩ := hq
    replace hh := hh.symm
    subst hh
    refine zt_ifb_eq kX12_settled_36 (fun c => ?_) (fun c => ?_)
    · replace H := H.1 c
      refine zt_iinc (v := (x4 + 1)) (L' := [zr 5 0, zi x1, zi x2, zi x3, zi (x4 + 1)]) kX12_settled_72 rfl rfl (by decide) rfl ?_
      refine zt_goto kX12_settled_75 ?_
      exact H
    · replace H := H.2 c
      refine zt_aload_n kX12_settled_39 rfl ?_
      refine zt_iload_n kX12_settled_40 rfl ?_
      refine zt_iload kX12_settled_41 rfl ?_
      obtain ⟨pp0, H⟩ := H
      refine zt_cV (as := [zi x2, zi x4]) kX12_settled_43 sRX12_98 rfl (by decide) rfl (by simp) rfl (sX12_isHeld _  pp0) (fun r h0 hq => ?_)
      obtain ⟨rfl, hh⟩ := hq
      replace hh := hh.symm
      subst hh
      refine zt_ifb_eq kX12_settled_46 (fun c => ?_) (fun c => ?_)
      · replace H := H.1 c
        refine zt_iload_n kX12_settled_65 rfl ?_
        refine zt_iconst (v := 1) kX12_settled_66 rfl ?_
        refine zt_iload kX12_settled_67 rfl ?_
        refine zt_ishl kX12_settled_69 ?_
        refine zt_ior kX12_settled_70 ?_
        refine zt_istore_n (L' := [zr 5 0, zi x1, zi x2, zi (x3 ||| ((1 : Int32) <<< (x4 &&& 31))), zi x4]) kX12_settled_71 (by decide) rfl ?_
        refine zt_iinc (v := (x4 + 1)) (L' := [zr 5 0, zi x1, zi x2, zi (x3 ||| ((1 : Int32) <<< (x4 &&& 31))), zi (x4 + 1)]) kX12_settled_72 rfl rfl (by decide) rfl ?_
        refine zt_goto kX12_settled_75 ?_
        exact H
      · replace H := H.2 c
        refine zt_aload_n kX12_settled_49 rfl ?_
        refine zt_get (v := zr 33 0) kX12_settled_50 fRX12_19 rfl (by decide) rfl ?_
        refine zt_iload kX12_settled_53 rfl ?_
        obtain ⟨hv, H⟩ := H
        refine zt_iald kX12_settled_55 rfl (by decide) hv ?_
        refine zt_aload_n kX12_settled_56 rfl ?_
        refine zt_iload kX12_settled_57 rfl ?_
        obtain ⟨pp0, H⟩ := H
        refine zt_cV (as := [zi x4]) kX12_settled_59 sRX12_101 rfl (by decide) rfl (by simp) rfl (sX12_bears _  pp0) (fun r h0 hq => ?_)
        obtain ⟨rfl, hh⟩ := hq
        replace hh := hh.symm
        subst hh
        refine zt_icmp_le kX12_settled_62 (fun c => ?_) (fun c => ?_)
        · replace H := H.1 c
          refine zt_iinc (v := (x4 + 1)) (L' := [zr 5 0, zi x1, zi x2, zi x3, zi (x4 + 1)]) kX12_settled_72 rfl rfl (by decide) rfl ?_
          refine zt_goto kX12_settled_75 ?_
          exact H
        · replace H := H.2 c
          refine zt_iload_n kX12_settled_65 rfl ?_
          refine zt_iconst (v := 1) kX12_settled_66 rfl ?_
          refine zt_iload kX12_settled_67 rfl ?_
          refine zt_ishl kX12_settled_69 ?_
          refine zt_ior kX12_settled_70 ?_
          refine zt_istore_n (L' := [zr 5 0, zi x1, zi x2, zi (x3 ||| ((1 : Int32) <<< (x4 &&& 31))), zi x4]) kX12_settled_71 (by decide) rfl ?_
          refine zt_iinc (v := (x4 + 1)) (L' := [zr 5 0, zi x1, zi x2, zi (x3 ||| ((1 : Int32) <<< (x4 &&& 31))), zi (x4 + 1)]) kX12_settled_72 rfl rfl (by decide) rfl ?_
          refine zt_goto kX12_settled_75 ?_
          exact H

