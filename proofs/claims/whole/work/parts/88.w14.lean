/-! ===== the bytecode of these methods, walked (by program): X12_toss ===== -/
theorem kX12_toss_0 : zD cX12_toss 0 1 (.aload_n 0) 1 := by decide +kernel
theorem kX12_toss_1 : zD cX12_toss 1 2 (.iload_n 1) 1 := by decide +kernel
theorem kX12_toss_2 : zD cX12_toss 2 5 (.invokevirtual 160) 3 := by decide +kernel
theorem kX12_toss_5 : zD cX12_toss 5 6 (.istore_n 2) 1 := by decide +kernel
theorem kX12_toss_6 : zD cX12_toss 6 7 (.iload_n 2) 1 := by decide +kernel
theorem kX12_toss_7 : zB cX12_toss 7 10 12 (.ifCond .eq 5) 5 := by decide +kernel
theorem kX12_toss_10 : zD cX12_toss 10 11 (.iload_n 2) 1 := by decide +kernel
theorem kX12_toss_11 : zD cX12_toss 11 12 (.ireturn) 1 := by decide +kernel
theorem kX12_toss_12 : zD cX12_toss 12 13 (.aload_n 0) 1 := by decide +kernel
theorem kX12_toss_13 : zD cX12_toss 13 16 (.getfield 38) 3 := by decide +kernel
theorem kX12_toss_16 : zD cX12_toss 16 17 (.iload_n 1) 1 := by decide +kernel
theorem kX12_toss_17 : zD cX12_toss 17 18 (.iaload) 1 := by decide +kernel
theorem kX12_toss_18 : zD cX12_toss 18 19 (.istore_n 3) 1 := by decide +kernel
theorem kX12_toss_19 : zD cX12_toss 19 20 (.aload_n 0) 1 := by decide +kernel
theorem kX12_toss_20 : zD cX12_toss 20 23 (.getfield 41) 3 := by decide +kernel
theorem kX12_toss_23 : zD cX12_toss 23 24 (.iload_n 1) 1 := by decide +kernel
theorem kX12_toss_24 : zD cX12_toss 24 25 (.iaload) 1 := by decide +kernel
theorem kX12_toss_25 : zD cX12_toss 25 27 (.istore 4) 2 := by decide +kernel
theorem kX12_toss_27 : zD cX12_toss 27 28 (.iload_n 3) 1 := by decide +kernel
theorem kX12_toss_28 : zD cX12_toss 28 29 (.iconst 3) 1 := by decide +kernel
theorem kX12_toss_29 : zB cX12_toss 29 32 43 (.if_icmp .eq 14) 14 := by decide +kernel
theorem kX12_toss_32 : zD cX12_toss 32 33 (.iload_n 3) 1 := by decide +kernel
theorem kX12_toss_33 : zD cX12_toss 33 35 (.bipush 7) 2 := by decide +kernel
theorem kX12_toss_35 : zB cX12_toss 35 38 43 (.if_icmp .eq 8) 8 := by decide +kernel
theorem kX12_toss_38 : zD cX12_toss 38 40 (.iload 4) 2 := by decide +kernel
theorem kX12_toss_40 : zB cX12_toss 40 43 46 (.ifCond .ne 6) 6 := by decide +kernel
theorem kX12_toss_43 : zD cX12_toss 43 45 (.bipush (-15)) 2 := by decide +kernel
theorem kX12_toss_45 : zD cX12_toss 45 46 (.ireturn) 1 := by decide +kernel
theorem kX12_toss_46 : zD cX12_toss 46 47 (.iload_n 3) 1 := by decide +kernel
theorem kX12_toss_47 : zD cX12_toss 47 48 (.iconst 5) 1 := by decide +kernel
theorem kX12_toss_48 : zB cX12_toss 48 51 64 (.if_icmp .ne 16) 16 := by decide +kernel
theorem kX12_toss_51 : zD cX12_toss 51 54 (.sipush 200) 3 := by decide +kernel
theorem kX12_toss_54 : zD cX12_toss 54 55 (.iload_n 3) 1 := by decide +kernel
theorem kX12_toss_55 : zD cX12_toss 55 57 (.iload 4) 2 := by decide +kernel
theorem kX12_toss_57 : zD cX12_toss 57 60 (.invokestatic 244) 3 := by decide +kernel
theorem kX12_toss_60 : zD cX12_toss 60 61 (.iadd) 1 := by decide +kernel
theorem kX12_toss_61 : zB cX12_toss 61 64 79 (.goto 18) 18 := by decide +kernel
theorem kX12_toss_64 : zD cX12_toss 64 65 (.iload_n 3) 1 := by decide +kernel
theorem kX12_toss_65 : zD cX12_toss 65 66 (.iconst 1) 1 := by decide +kernel
theorem kX12_toss_66 : zB cX12_toss 66 69 77 (.if_icmp .ne 11) 11 := by decide +kernel
theorem kX12_toss_69 : zD cX12_toss 69 71 (.bipush 100) 2 := by decide +kernel
theorem kX12_toss_71 : zD cX12_toss 71 73 (.iload 4) 2 := by decide +kernel
theorem kX12_toss_73 : zD cX12_toss 73 74 (.iadd) 1 := by decide +kernel
theorem kX12_toss_74 : zB cX12_toss 74 77 79 (.goto 5) 5 := by decide +kernel
theorem kX12_toss_77 : zD cX12_toss 77 79 (.iload 4) 2 := by decide +kernel
theorem kX12_toss_79 : zD cX12_toss 79 80 (.ireturn) 1 := by decide +kernel
set_option maxRecDepth 10000 in
theorem wX12_toss_0 {G : ZG} {d : Nat} {h : ZH} {Q : Option ZV → ZH → Prop} {x1 : Int32} 
  (H : ((wKeptI h x1) = 0 → vp_in x1 8 ∧ vp_in x1 8 ∧ ((h.1 39 0 x1.toNatClampNeg) = 3 → Q (some (zi (-15))) h) ∧ (¬ (h.1 39 0 x1.toNatClampNeg) = 3 → ((h.1 39 0 x1.toNatClampNeg) = 7 → Q (some (zi (-15))) h) ∧ (¬ (h.1 39 0 x1.toNatClampNeg) = 7 → (¬ (h.1 40 0 x1.toNatClampNeg) = 0 → (¬ (h.1 39 0 x1.toNatClampNeg) = 5 → (¬ (h.1 39 0 x1.toNatClampNeg) = 1 → Q (some (zi (h.1 40 0 x1.toNatClampNeg))) h) ∧ ((h.1 39 0 x1.toNatClampNeg) = 1 → Q (some (zi (100 + (h.1 40 0 x1.toNatClampNeg)))) h)) ∧ ((h.1 39 0 x1.toNatClampNeg) = 5 → Q (some (zi (200 + (costI (h.1 39 0 x1.toNatClampNeg) (h.1 40 0 x1.toNatClampNeg))))) h)) ∧ ((h.1 40 0 x1.toNatClampNeg) = 0 → Q (some (zi (-15))) h)))) ∧ (¬ (wKeptI h x1) = 0 → Q (some (zi (wKeptI h x1))) h)) :
  zT G (d + 4) mX12_toss 0 [zr 5 0, zi x1, zu, zu, zu] [] h Q := by
  refine zt_aload_n kX12_toss_0 rfl ?_
  refine zt_iload_n kX12_toss_1 rfl ?_
  refine zt_cV (as := [zi x1]) kX12_toss_2 sRX12_160 rfl (by decide) rfl (by simp) rfl (sX12_wrongKept _  ) (fun r h0 hq => ?_)
  obtain ⟨rfl, hh⟩ := hq
  replace hh := hh.symm
  subst hh
  refine zt_istore_n (L' := [zr 5 0, zi x1, zi (wKeptI h x1), zu, zu]) kX12_toss_5 (by decide) rfl ?_
  refine zt_iload_n kX12_toss_6 rfl ?_
  refine zt_if_eq kX12_toss_7 (fun c => ?_) (fun c => ?_)
  · replace H := H.1 c
    refine zt_aload_n kX12_toss_12 rfl ?_
    refine zt_get (v := zr 39 0) kX12_toss_13 fRX12_38 rfl (by decide) rfl ?_
    refine zt_iload_n kX12_toss_16 rfl ?_
    obtain ⟨hv, H⟩ := H
    refine zt_iald kX12_toss_17 rfl (by decide) hv ?_
    refine zt_istore_n (L' := [zr 5 0, zi x1, zi (wKeptI h x1), zi (h.1 39 0 x1.toNatClampNeg), zu]) kX12_toss_18 (by decide) rfl ?_
    refine zt_aload_n kX12_toss_19 rfl ?_
    refine zt_get (v := zr 40 0) kX12_toss_20 fRX12_41 rfl (by decide) rfl ?_
    refine zt_iload_n kX12_toss_23 rfl ?_
    obtain ⟨hv, H⟩ := H
    refine zt_iald kX12_toss_24 rfl (by decide) hv ?_
    refine zt_istore (L' := [zr 5 0, zi x1, zi (wKeptI h x1), zi (h.1 39 0 x1.toNatClampNeg), zi (h.1 40 0 x1.toNatClampNeg)]) kX12_toss_25 (by decide) rfl ?_
    refine zt_iload_n kX12_toss_27 rfl ?_
    refine zt_iconst (v := 3) kX12_toss_28 rfl ?_
    refine zt_icmp_eq kX12_toss_29 (fun c => ?_) (fun c => ?_)
    · replace H := H.1 c
      refine zt_bipush (v := (-15)) kX12_toss_43 rfl ?_
      exact zt_iret kX12_toss_45 rfl H
    · replace H := H.2 c
      refine zt_iload_n kX12_toss_32 rfl ?_
      refine zt_bipush (v := 7) kX12_toss_33 rfl ?_
      refine zt_icmp_eq kX12_toss_35 (fun c => ?_) (fun c => ?_)
      · replace H := H.1 c
        refine zt_bipush (v := (-15)) kX12_toss_43 rfl ?_
        exact zt_iret kX12_toss_45 rfl H
      · replace H := H.2 c
        refine zt_iload kX12_toss_38 rfl ?_
        refine zt_if_ne kX12_toss_40 (fun c => ?_) (fun c => ?_)
        · replace H := H.1 c
          refine zt_iload_n kX12_toss_46 rfl ?_
          refine zt_iconst (v := 5) kX12_toss_47 rfl ?_
          refine zt_icmp_ne kX12_toss_48 (fun c => ?_) (fun c => ?_)
          · replace H := H.1 c
            refine zt_iload_n kX12_toss_64 rfl ?_
            refine zt_iconst (v := 1) kX12_toss_65 rfl ?_
            refine zt_icmp_ne kX12_toss_66 (fun c => ?_) (fun c => ?_)
            · replace H := H.1 c
              refine zt_iload kX12_toss_77 rfl ?_
              exact zt_iret kX12_toss_79 rfl H
            · replace H := H.2 c
              refine zt_bipush (v := 100) kX12_toss_69 rfl ?_
              refine zt_iload kX12_toss_71 rfl ?_
              refine zt_iadd kX12_toss_73 ?_
              refine zt_goto kX12_toss_74 ?_
              exact zt_iret kX12_toss_79 rfl H
          · replace H := H.2 c
            refine zt_sipush (v := 200) kX12_toss_51 rfl ?_
            refine zt_iload_n kX12_toss_54 rfl ?_
            refine zt_iload kX12_toss_55 rfl ?_
            refine zt_cS (as := [zi (h.1 39 0 x1.toNatClampNeg), zi (h.1 40 0 x1.toNatClampNeg)]) kX12_toss_57 sRX12_244 rfl (by simp) rfl (sX12_costBy _  ) (fun r h0 hq => ?_)
            obtain ⟨rfl, hh⟩ := hq
            replace hh := hh.symm
            subst hh
            refine zt_iadd kX12_toss_60 ?_
            refine zt_goto kX12_toss_61 ?_
            exact zt_iret kX12_toss_79 rfl H
        · replace H := H.2 c
          refine zt_bipush (v := (-15)) kX12_toss_43 rfl ?_
          exact zt_iret kX12_toss_45 rfl H
  · replace H := H.2 c
    refine zt_iload_n kX12_toss_10 rfl ?_
    exact zt_iret kX12_toss_11 rfl H
theorem pX12_toss {G : ZG} (d : Nat) {h : ZH} (s : SH h) (x : Int32) : zC G (d + 4) mX12_toss [zr 5 0, zi x] h (fun r h' => r = some (zi (tossV h x)) ∧ h' = h) := by
  refine zC_of (by decide +kernel) (Nat.le_of_ble_eq_true rfl) (L := [zr 5 0, zi x, zu, zu, zu]) ⟨rfl, ⟨rfl, trivial⟩⟩ ?_
  refine wX12_toss_0 ?_
  unfold tossV
  rw [← kr_eq s]
  refine ⟨fun z => ?_, fun z => ⟨by rw [if_neg z], rfl⟩⟩
  obtain ⟨dd, k, f, hd, hk, hf, rfl, r1, r2, r3, r4⟩ := kr_0 s z
  rw [if_pos z]
  unfold caughtM
  refine ⟨vpn hd (by decide), vpn hd (by decide), fun c => ⟨by rw [if_pos (Or.inl c)], rfl⟩, fun c3 => ⟨fun c => ⟨by rw [if_pos (Or.inr (Or.inl c))], rfl⟩, fun c7 => ⟨fun c0 => ?_, fun c => ⟨by rw [if_pos (Or.inr (Or.inr c))], rfl⟩⟩⟩⟩
  rw [if_neg (fun q => by rcases q with q | q | q; exact c3 q; exact c7 q; exact c0 q)]
  refine ⟨fun c5 => ⟨fun c1 => ⟨by rw [if_neg c5, if_neg c1], rfl⟩, fun c1 => ⟨by rw [if_neg c5, if_pos c1], rfl⟩⟩, fun c5 => ⟨by rw [if_pos c5], rfl⟩⟩
def zTwoX (G : ZG) (d : Nat) (M1 M2 : ZM) (as : List ZV) (n : Nat) (h : ZH) : Prop := xC G d M1 (zr 0 0 :: as) h (fun r h1 => ∃ v : Int32, r = some (zi v) ∧ zC G d M2 (zr 5 0 :: as) h1 (fun r2 h2 => r2 = some (zi v) ∧ JY (n + 200) h2))
theorem xC_mono {G : ZG} {d : Nat} {M : ZM} {as : List ZV} {h : ZH} {Q Q' : Option ZV → ZH → Prop} (k : xC G d M as h Q) (hq : ∀ r h', Q r h' → Q' r h') : xC G d M as h Q' := by
  intro p e h1 h2 h3 s m args below h4 h5 h6 h7
  obtain ⟨n, o, a1, a2, a3, ⟨⟨r, h', b1, b2, b3⟩, b4⟩, a5⟩ := k p e h1 h2 h3 s m args below h4 h5 h6 h7
  exact ⟨n, o, a1, a2, a3, ⟨⟨r, h', b1, hq r h' b2, b3⟩, b4⟩, a5⟩
