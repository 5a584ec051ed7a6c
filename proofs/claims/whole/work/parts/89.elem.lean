/-! ===== element: the class, the law's own reader, the model ===== -/
theorem thA : xthr RX11 301 303 305 xIA "no such shelf" := ⟨wmk 865 (by decide +kernel) rfl, wmk 22 (by decide +kernel) rfl, by decide +kernel, by decide +kernel, by decide +kernel, by decide +kernel, by decide +kernel, by decide +kernel⟩
theorem thB : xthr RX11 312 314 316 xIS "no row" := ⟨wmk 866 (by decide +kernel) rfl, wmk 23 (by decide +kernel) rfl, by decide +kernel, by decide +kernel, by decide +kernel, by decide +kernel, by decide +kernel, by decide +kernel⟩
theorem thC : xthr RX11 312 317 316 xIS "no such place" := ⟨wmk 866 (by decide +kernel) rfl, wmk 23 (by decide +kernel) rfl, by decide +kernel, by decide +kernel, by decide +kernel, by decide +kernel, by decide +kernel, by decide +kernel⟩
theorem kX11_element_0 : zD cX11_element 0 1 (.iload_n 1) 1 := by decide +kernel
theorem kX11_element_1 : zD cX11_element 1 4 (.invokestatic 282) 3 := by decide +kernel
theorem kX11_element_18 : zD cX11_element 18 19 (.aload_n 0) 1 := by decide +kernel
theorem kX11_element_19 : zD cX11_element 19 22 (.getfield 62) 3 := by decide +kernel
theorem kX11_element_22 : zD cX11_element 22 23 (.iload_n 1) 1 := by decide +kernel
theorem kX11_element_23 : zD cX11_element 23 24 .aaload 1 := by decide +kernel
theorem kX11_element_24 : zD cX11_element 24 27 (.invokevirtual 308) 3 := by decide +kernel
theorem kX11_element_41 : zD cX11_element 41 42 (.aload_n 0) 1 := by decide +kernel
theorem kX11_element_42 : zD cX11_element 42 45 (.getfield 62) 3 := by decide +kernel
theorem kX11_element_45 : zD cX11_element 45 46 (.iload_n 1) 1 := by decide +kernel
theorem kX11_element_46 : zD cX11_element 46 47 .aaload 1 := by decide +kernel
theorem kX11_element_47 : zD cX11_element 47 48 (.iload_n 2) 1 := by decide +kernel
theorem kX11_element_48 : zD cX11_element 48 51 (.invokevirtual 295) 3 := by decide +kernel
theorem kX11_element_65 : zD cX11_element 65 66 (.aload_n 0) 1 := by decide +kernel
theorem kX11_element_66 : zD cX11_element 66 69 (.getfield 62) 3 := by decide +kernel
theorem kX11_element_69 : zD cX11_element 69 70 (.iload_n 1) 1 := by decide +kernel
theorem kX11_element_70 : zD cX11_element 70 71 .aaload 1 := by decide +kernel
theorem kX11_element_71 : zD cX11_element 71 72 (.iload_n 2) 1 := by decide +kernel
theorem kX11_element_72 : zD cX11_element 72 75 (.invokevirtual 244) 3 := by decide +kernel
theorem kX11_element_75 : zD cX11_element 75 76 .i2l 1 := by decide +kernel
theorem kX11_element_76 : zD cX11_element 76 77 .lreturn 1 := by decide +kernel
theorem kX11_element_4 : zB cX11_element 4 7 18 (.ifCond .ne 14) 14 := by decide +kernel
theorem kX11_element_27 : zB cX11_element 27 30 41 (.ifCond .ne 14) 14 := by decide +kernel
theorem kX11_element_51 : zB cX11_element 51 54 65 (.ifCond .ne 14) 14 := by decide +kernel
def elC (h : ZH) (x1 x2 : Int32) : Int32 := if 0 ≤ x1 ∧ x1 ≤ 7 then (if h.1 3 x1.toNatClampNeg 0 = 2 then (if 0 ≤ x2 ∧ x2 < h.1 3 x1.toNatClampNeg 4 then 0 else 2) else 2) else 1
def elV (h : ZH) (x1 x2 : Int32) : Int64 := (shAt h x1.toNatClampNeg x2).toInt64
theorem pX11_element {G : ZG} (d : Nat) {h : ZH} (s : SH h) (x1 x2 : Int32) : xCX G (d + 6) mX11_element [zr 0 0, zi x1, zi x2] h (fun r h' => (r = some (zl (elV h x1 x2)) ∧ h' = h) ∧ elC h x1 x2 = 0) (fun E => (E = xIA ∧ elC h x1 x2 = 1) ∨ (E = xIS ∧ elC h x1 x2 = 2)) := by
  refine xCX_of (by decide +kernel) (Nat.le_of_ble_eq_true rfl) (L := [zr 0 0, zi x1, zi x2]) ⟨rfl, ⟨rfl, ⟨rfl, trivial⟩⟩⟩ ?_
  have r6 : 6 ≤ (nRm (d + 6) 1 6).frames := by show 6 ≤ d + 6; omega
  have r8 : 82 ≤ (nRm (d + 6) 1 6).locals := by show 82 ≤ 48 * (d + 6); omega
  have rf : d + 2 + 1 ≤ (nRm (d + 6) 1 6).frames := by show d + 2 + 1 ≤ d + 6; omega
  have rl : 48 * (d + 2) + 48 ≤ (nRm (d + 6) 1 6).locals := by show 48 * (d + 2) + 48 ≤ 48 * (d + 6); omega
  refine xt_iload_n kX11_element_0 rfl ?_
  refine xt_cS (d := d + 2) (S := []) (as := [zi x1]) kX11_element_1 sRX11_282 rfl (by simp) rfl rf rl (Nat.zero_le _) (Nat.zero_le _) (sX11_isShelf _) ?_
  rintro r h1 ⟨rfl, rfl⟩
  unfold elC
  refine xt_if_ne kX11_element_4 (fun z => ?_) (fun z => ?_)
  · have a : 0 ≤ x1 ∧ x1 ≤ 7 := Classical.byContradiction fun q => z (zb_f q)
    obtain ⟨dd, hd, rfl⟩ := zin8 a
    have cd : (nI dd).toNatClampNeg = dd := nI_cl (by omega)
    rw [if_pos a, cd]
    refine xt_aload_n kX11_element_18 rfl ?_
    refine xt_get (v := zr 22 0) kX11_element_19 fRX11_62 rfl (by decide) rfl ?_
    refine xt_iload_n kX11_element_22 rfl ?_
    refine xt_aaldH kX11_element_23 (vpn hd (by decide)) ?_
    rw [cd]
    refine xt_cV (d := d + 2) (S := []) (as := []) kX11_element_24 sRX11_308 rfl hd rfl (by simp) rfl rf rl (Nat.zero_le _) (Nat.zero_le _) (sX8_isRow (d + 1) hd) ?_
    rintro r h2 ⟨rfl, rfl⟩
    refine xt_if_ne kX11_element_27 (fun z => ?_) (fun z => ?_)
    · have b : h2.1 3 dd 0 = 2 := Classical.byContradiction fun q => z (zb_f q)
      rw [if_pos b]
      refine xt_aload_n kX11_element_41 rfl ?_
      refine xt_get (v := zr 22 0) kX11_element_42 fRX11_62 rfl (by decide) rfl ?_
      refine xt_iload_n kX11_element_45 rfl ?_
      refine xt_aaldH kX11_element_46 (vpn hd (by decide)) ?_
      rw [cd]
      refine xt_iload_n kX11_element_47 rfl ?_
      refine xt_cV (d := d + 2) (S := []) (as := [zi x2]) kX11_element_48 sRX11_295 rfl hd rfl (by simp) rfl rf rl (Nat.zero_le _) (Nat.zero_le _) (sX8_hasPlace (d + 1) hd) ?_
      rintro r h3 ⟨rfl, rfl⟩
      refine xt_if_ne kX11_element_51 (fun z => ?_) (fun z => ?_)
      · have cc : 0 ≤ x2 ∧ x2 < h3.1 3 dd 4 := Classical.byContradiction fun q => z (zb_f q)
        rw [if_pos cc]
        refine xt_aload_n kX11_element_65 rfl ?_
        refine xt_get (v := zr 22 0) kX11_element_66 fRX11_62 rfl (by decide) rfl ?_
        refine xt_iload_n kX11_element_69 rfl ?_
        refine xt_aaldH kX11_element_70 (vpn hd (by decide)) ?_
        rw [cd]
        refine xt_iload_n kX11_element_71 rfl ?_
        have h100 : h3.1 3 dd 4 ≤ 100 := by
          obtain ⟨n, hn, e4, -⟩ := s dd hd
          rw [e4]
          exact nI_leI (b := 100) (by omega) (by omega) |>.mpr hn
        refine xt_cV (d := d + 2) (S := []) (as := [zi x2]) kX11_element_72 sRX11_244 rfl hd rfl (by simp) rfl rf rl (Nat.zero_le _) (Nat.zero_le _) (sX8_at d hd h100) ?_
        rintro r h4 ⟨rfl, rfl⟩
        refine xt_i2l kX11_element_75 ?_
        exact xt_lretX kX11_element_76 rfl (Nat.zero_le _) (Nat.zero_le _) ⟨⟨by unfold elV; rw [cd], rfl⟩, rfl⟩
      · have cc : ¬ (0 ≤ x2 ∧ x2 < h3.1 3 dd 4) := zb_eq0.mp z
        rw [if_neg cc]
        exact xt_throwSW thC (by decide +kernel) (by decide +kernel) (by decide +kernel) (by decide +kernel) (by decide +kernel) r6 r8 (Nat.le_refl _) (Nat.le_refl _) (Or.inr ⟨rfl, rfl⟩) rfl rfl
    · have b : ¬ h2.1 3 dd 0 = 2 := zb_eq0.mp z
      rw [if_neg b]
      exact xt_throwSW thB (by decide +kernel) (by decide +kernel) (by decide +kernel) (by decide +kernel) (by decide +kernel) r6 r8 (Nat.le_refl _) (Nat.le_refl _) (Or.inr ⟨rfl, rfl⟩) rfl rfl
  · have a : ¬ (0 ≤ x1 ∧ x1 ≤ 7) := zb_eq0.mp z
    rw [if_neg a]
    exact xt_throwSW thA (by decide +kernel) (by decide +kernel) (by decide +kernel) (by decide +kernel) (by decide +kernel) r6 r8 (Nat.le_refl _) (Nat.le_refl _) (Or.inl ⟨rfl, rfl⟩) rfl rfl
abbrev mL_element : ZM := (yL_element, cL_element, 5, some .int)
def xhL : List (Nat × Nat × Nat × Nat) := [(0, 9, 12, 13), (0, 9, 16, 15)]
theorem sRL_7 : zVS RL 7 11 mX11_element 2 := ⟨⟨wmk 990 (by decide +kernel) rfl, wmk 991 (by decide +kernel) rfl, wmk 992 (by decide +kernel) rfl, wmk 1 (by decide +kernel) rfl, wmk 993 (by decide +kernel) rfl⟩, ⟨by decide +kernel, by decide +kernel, by decide +kernel⟩, by decide, TX11, 7, rfl⟩
theorem sRL_163 : xSW RL 163 mL_element xhL 4 := ⟨⟨wmk 985 (by decide +kernel) rfl, wmk 986 (by decide +kernel) rfl, wmk 0 (by decide +kernel) rfl, wmk 987 (by decide +kernel) rfl⟩, ⟨by decide +kernel, by decide +kernel, by decide +kernel⟩, by decide⟩
theorem lkL13 : Cond.classLink RL 13 xIA ∈ zall := wmk 988 (by decide +kernel) rfl
theorem lkL15 : Cond.classLink RL 15 xIS ∈ zall := wmk 989 (by decide +kernel) rfl
theorem kL_element_0 : zD cL_element 0 1 (.aload_n 3) 1 := by decide +kernel
theorem kL_element_1 : zD cL_element 1 2 (.iconst 0) 1 := by decide +kernel
theorem kL_element_2 : zD cL_element 2 3 (.aload_n 0) 1 := by decide +kernel
theorem kL_element_3 : zD cL_element 3 4 (.iload_n 1) 1 := by decide +kernel
theorem kL_element_4 : zD cL_element 4 5 (.iload_n 2) 1 := by decide +kernel
theorem kL_element_5 : zD cL_element 5 8 (.invokevirtual 7) 3 := by decide +kernel
theorem kL_element_8 : zD cL_element 8 9 .lastore 1 := by decide +kernel
theorem kL_element_12 : zD cL_element 12 14 (.astore 4) 2 := by decide +kernel
theorem kL_element_14 : zD cL_element 14 15 (.iconst 1) 1 := by decide +kernel
theorem kL_element_15 : zD cL_element 15 16 .ireturn 1 := by decide +kernel
theorem kL_element_16 : zD cL_element 16 18 (.astore 4) 2 := by decide +kernel
theorem kL_element_18 : zD cL_element 18 19 (.iconst 2) 1 := by decide +kernel
theorem kL_element_19 : zD cL_element 19 20 .ireturn 1 := by decide +kernel
theorem kL_element_20 : zD cL_element 20 21 (.iconst 0) 1 := by decide +kernel
theorem kL_element_21 : zD cL_element 21 22 .ireturn 1 := by decide +kernel
theorem kL_element_9 : zB cL_element 9 12 20 (.goto 11) 11 := by decide +kernel
theorem xCW_mono {G : ZG} {d : Nat} {M : ZM} {hh : List (Nat × Nat × Nat × Nat)} {as : List ZV} {h : ZH} {Q Q' : Option ZV → ZH → Prop} (k : xCW G d M hh as h Q) (hq : ∀ r h', Q r h' → Q' r h') : xCW G d M hh as h Q' := by
  intro p e h1 h2 h3 s m args below h4 h5 h6 h7
  obtain ⟨n, o, a1, a2, a3, ⟨⟨r, h', b1, b2, b3⟩, b4⟩, a5⟩ := k p e h1 h2 h3 s m args below h4 h5 h6 h7
  exact ⟨n, o, a1, a2, a3, ⟨⟨r, h', b1, hq r h' b2, b3⟩, b4⟩, a5⟩
def elH (h : ZH) (x1 x2 : Int32) : ZH := if elC h x1 x2 = 0 then zs2 h 44 0 0 (elV h x1 x2) else h
theorem pL_element {G : ZG} (d : Nat) {h : ZH} (s : SH h) (x1 x2 : Int32) : xCW G (d + 7) mL_element xhL [zr 0 0, zi x1, zi x2, zr 44 0] h (fun r h' => r = some (zi (elC h x1 x2)) ∧ h' = elH h x1 x2) := by
  refine xCW_of (by decide +kernel) (Nat.le_of_ble_eq_true rfl) (L := [zr 0 0, zi x1, zi x2, zr 44 0, zu]) ⟨rfl, ⟨rfl, ⟨rfl, ⟨rfl, trivial⟩⟩⟩⟩ ?_
  refine xt_aload_n kL_element_0 rfl ?_
  refine xt_iconst (v := 0) kL_element_1 rfl ?_
  refine xt_aload_n kL_element_2 rfl ?_
  refine xt_iload_n kL_element_3 rfl ?_
  refine xt_iload_n kL_element_4 rfl ?_
  refine xt_cVX (d := d + 6) (S := [zi 0, zr 44 0]) (as := [zi x1, zi x2]) kL_element_5 sRL_7 rfl (by decide) rfl (by simp) rfl (by show d + 6 + 1 ≤ d + 7; omega) (by show 48 * (d + 6) + 48 ≤ 48 * (d + 7); omega) (Nat.le_refl _) (Nat.le_refl _) (pX11_element d s x1 x2) ?_ ?_
  · rintro E (⟨rfl, z⟩ | ⟨rfl, z⟩)
    · refine xx_catch2 [] ⟨0, 9, 12, 13⟩ [⟨0, 9, 16, 15⟩] rfl (fun z hz => by cases hz) (by decide) (by decide) lkL13 (by decide) kL_element_12 (by decide) rfl ?_
      refine xt_iconst (v := 1) kL_element_14 rfl ?_
      refine xt_iret kL_element_15 rfl (Nat.le_refl _) (Nat.le_refl _) ⟨by rw [z], ?_⟩
      unfold elH
      rw [if_neg (by rw [z]; decide)]
    · refine xx_catch2 [⟨0, 9, 12, 13⟩] ⟨0, 9, 16, 15⟩ [] rfl ?_ (by decide) (by decide) lkL15 (by decide) kL_element_16 (by decide) rfl ?_
      · intro z hz
        rcases List.mem_singleton.mp hz with rfl
        exact ⟨by decide, _, lkL13, by decide⟩
      refine xt_iconst (v := 2) kL_element_18 rfl ?_
      refine xt_iret kL_element_19 rfl (Nat.le_refl _) (Nat.le_refl _) ⟨by rw [z], ?_⟩
      unfold elH
      rw [if_neg (by rw [z]; decide)]
  · rintro r h1 ⟨⟨rfl, rfl⟩, z⟩
    refine xt_last (k := 44) (i := 0) (n := 1) kL_element_8 rfl (by decide) (show vp_in 0 1 from vpn (n := 0) (N := 1) (by decide) (by decide)) ?_
    refine xt_goto kL_element_9 ?_
    refine xt_iconst (v := 0) kL_element_20 rfl ?_
    refine xt_iret kL_element_21 rfl (Nat.le_refl _) (Nat.le_refl _) ⟨by rw [z], ?_⟩
    unfold elH
    rw [if_pos z]
    rfl
theorem pX12_element {G : ZG} (d : Nat) {h : ZH} (s : SH h) (x1 x2 : Int32) : zC G (d + 3) mX12_element [zr 5 0, zi x1, zi x2] h (fun r h' => h' = zs1 h 5 0 23 (elC h x1 x2) ∧ ∃ v, r = some (zl v) ∧ (elC h x1 x2 = 0 → v = elV h x1 x2)) := by
  refine zC_of (by decide +kernel) (Nat.le_of_ble_eq_true rfl) (L := [zr 5 0, zi x1, zi x2]) ⟨rfl, ⟨rfl, ⟨rfl, trivial⟩⟩⟩ ?_
  refine wX12_element_0 ?_
  have at23 : ∀ v : Int32, (zs1 h 5 0 23 v).1 5 0 23 = v := fun v => by rw [zs1_at, if_pos ⟨rfl, rfl, rfl⟩]
  unfold elC
  refine ⟨fun a => ?_, fun a => ?_⟩
  · rw [if_pos a]
    obtain ⟨dd, hd, rfl⟩ := zin8 a
    have cd : (nI dd).toNatClampNeg = dd := nI_cl (by omega)
    rw [cd]
    refine ⟨vpn hd (by decide), fun b => ?_, fun b => ?_⟩
    · have b3 : ¬ h.1 3 dd 0 = 2 := by
        obtain ⟨n, hn, e4, q⟩ := s dd hd
        rcases q with ⟨q1, q2⟩ | ⟨q1, q2, _⟩ | ⟨q1, q2, _⟩
        · rw [q1]; decide
        · rw [q1]; decide
        · exact absurd q2 b
      rw [if_neg b3]
      rintro h1 rfl
      rw [at23]
      exact ⟨fun _ => ⟨rfl, _, rfl, fun q => absurd q (by decide)⟩, fun q => absurd q (by decide)⟩
    · obtain ⟨n, hn, e4, q⟩ := s dd hd
      rcases q with ⟨q1, q2⟩ | ⟨q1, q2, _⟩ | ⟨q1, q2, t, ht, r1, r2, r3, r4⟩
      · rw [q2] at b; exact absurd b (by decide)
      · rw [q2] at b; exact absurd b (by decide)
      rw [if_pos q1, e4, r3]
      refine ⟨vpn hd (by decide), fun c => ?_, fun c => ?_⟩
      · have c2 := (ix_rng hn).2.mp c
        rw [if_pos c2]
        obtain ⟨i, hi, rfl⟩ := (ix_rng hn).1.mp c2
        have ix := ix_el hd (show i < 100 by omega)
        rintro h1 rfl
        rw [at23]
        refine ⟨fun q => absurd rfl q, fun _ => ⟨by rw [ix.1]; exact ix.2.1, rfl, _, rfl, fun _ => ?_⟩⟩
        unfold elV shAt
        rw [cd, e4, if_pos c2, ix.1, ix.2.2, zs1_at, if_neg (by simp), nI_cl (show i ≤ 4096 by omega), (r4 i (by omega)).1]
      · have c2 : ¬ (0 ≤ x2 ∧ x2 < nI n) := fun q => c ((ix_rng hn).2.mpr q)
        rw [if_neg c2]
        rintro h1 rfl
        rw [at23]
        exact ⟨fun _ => ⟨rfl, _, rfl, fun q => absurd q (by decide)⟩, fun q => absurd q (by decide)⟩
  · rw [if_neg a]
    rintro h1 rfl
    rw [at23]
    exact ⟨fun _ => ⟨rfl, _, rfl, fun q => absurd q (by decide)⟩, fun q => absurd q (by decide)⟩
theorem JX.out {h : ZH} {S m : Nat} {c e : ZQ5} (j : JX h S c e (m, h)) (v : Int64) : JX (zs2 h 44 0 0 v) S c e (m, zs2 h 44 0 0 v) := ⟨j.1, j.2.1, j.2.2.1, j.2.2.2.1, j.2.2.2.2.1, zfx.rf _ _⟩
theorem two_element {G : ZG} {n : Nat} {h : ZH} (jy : JY n h) (x1 x2 : Int32) : xCW G 24 mL_element xhL [zr 0 0, zi x1, zi x2, zr 44 0] h (fun r h1 => ∃ k : Int32, r = some (zi k) ∧ zC G 24 mX12_element [zr 5 0, zi x1, zi x2] h1 (fun r2 h2 => ∃ b : Int64, r2 = some (zl b) ∧ h2.1 5 0 23 = k ∧ (k = 0 → h2.2 44 0 0 = b) ∧ JY (n + 200) h2)) := by
  obtain ⟨S, c, e, m, hm, j⟩ := jy
  refine xCW_mono (pL_element 17 j.sh x1 x2) ?_
  rintro r h1 ⟨rfl, rfl⟩
  refine ⟨_, rfl, ?_⟩
  have j1 : JX (elH h x1 x2) S c e (m, elH h x1 x2) := by
    unfold elH
    by_cases z : elC h x1 x2 = 0
    · rw [if_pos z]; exact j.out _
    · rw [if_neg z]; exact j
  have ec : elC (elH h x1 x2) x1 x2 = elC h x1 x2 := by
    unfold elH
    by_cases z : elC h x1 x2 = 0
    · rw [if_pos z]; rfl
    · rw [if_neg z]
  refine zC_mono (pX12_element 21 j1.sh x1 x2) ?_
  rintro r h2 ⟨rfl, v, rfl, hv⟩
  refine ⟨v, rfl, ?_, fun z => ?_, (j1.s5 _ (by decide)).y (show m ≤ n + 200 by omega)⟩
  · rw [zs1_at, if_pos ⟨rfl, rfl, rfl⟩, ec]
  · rw [hv (ec.trans z)]
    show (elH h x1 x2).2 44 0 0 = _
    have e9 : elH h x1 x2 = zs2 h 44 0 0 (elV h x1 x2) := by unfold elH; rw [if_pos z]
    rw [e9, zs2_at, if_pos ⟨rfl, rfl, rfl⟩]
    rfl
theorem two_toss {G : ZG} {n : Nat} {h : ZH} (jy : JY n h) (x : Int32) : zTwoX G 24 mX11_toss mX12_toss [zi x] n h := by
  obtain ⟨S, c, e, m, hm, j⟩ := jy
  refine xC_mono (pX11_toss 16 j.sh x) ?_
  rintro r h1 ⟨rfl, e1⟩
  rw [e1]
  refine ⟨_, rfl, zC_mono (pX12_toss 20 j.sh x) ?_⟩
  rintro r h2 ⟨rfl, e2⟩
  rw [e2]
  exact ⟨rfl, j.y (show m ≤ n + 200 by omega)⟩
