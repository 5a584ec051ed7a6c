/-! ===== fail, caughtOf, toss ===== -/
theorem thX10 : xthr RX10 9 11 13 xIS "a stone fails" := ⟨wmk 969 (by decide +kernel) rfl, wmk 23 (by decide +kernel) rfl, by decide +kernel, by decide +kernel, by decide +kernel, by decide +kernel, by decide +kernel, by decide +kernel⟩
theorem kX10_fail_0 : zD cX10_fail 0 1 (.iload_n 1) 1 := by decide +kernel
theorem kX10_fail_1 : zB cX10_fail 1 4 14 (.ifCond .eq 13) 13 := by decide +kernel
theorem kX10_fail_14 : zD cX10_fail 14 15 .return_ 1 := by decide +kernel
theorem fX10 {G : ZG} (d : Nat) {h : ZH} {i : Nat} {f : Int32} : xCX G (d + 6) mX10_fail [zr 4 i, zi f] h (fun r h' => (r = none ∧ h' = h) ∧ f = 0) (fun E => E = xIS ∧ ¬ f = 0) := by
  refine xCX_of (by decide +kernel) (Nat.le_of_ble_eq_true rfl) (L := [zu, zi f]) ⟨rfl, trivial⟩ ?_
  refine xt_iload_n kX10_fail_0 rfl ?_
  refine xt_if_eq kX10_fail_1 (fun c => ?_) (fun c => ?_)
  · exact xt_vretX kX10_fail_14 rfl (Nat.zero_le _) (Nat.zero_le _) ⟨⟨rfl, rfl⟩, c⟩
  · exact xt_throwS thX10 (by decide +kernel) (by decide +kernel) (by decide +kernel) (by decide +kernel) (by decide +kernel) (by show 6 ≤ d + 6; omega) (by show 82 ≤ 48 * (d + 6); omega) (Nat.le_refl _) (Nat.le_refl _) ⟨rfl, c⟩ rfl rfl
theorem thX2 : xthr RX2 17 19 21 xIA "a corner fails" := ⟨wmk 876 (by decide +kernel) rfl, wmk 22 (by decide +kernel) rfl, by decide +kernel, by decide +kernel, by decide +kernel, by decide +kernel, by decide +kernel, by decide +kernel⟩
theorem kX2_fail_0 : zD cX2_fail 0 1 (.iload_n 1) 1 := by decide +kernel
theorem kX2_fail_1 : zB cX2_fail 1 4 14 (.ifCond .eq 13) 13 := by decide +kernel
theorem kX2_fail_14 : zD cX2_fail 14 15 .return_ 1 := by decide +kernel
theorem fX2 {G : ZG} (d : Nat) {h : ZH} {i : Nat} {f : Int32} : xCX G (d + 6) mX2_fail [zr 4 i, zi f] h (fun r h' => (r = none ∧ h' = h) ∧ f = 0) (fun E => E = xIA ∧ ¬ f = 0) := by
  refine xCX_of (by decide +kernel) (Nat.le_of_ble_eq_true rfl) (L := [zu, zi f]) ⟨rfl, trivial⟩ ?_
  refine xt_iload_n kX2_fail_0 rfl ?_
  refine xt_if_eq kX2_fail_1 (fun c => ?_) (fun c => ?_)
  · exact xt_vretX kX2_fail_14 rfl (Nat.zero_le _) (Nat.zero_le _) ⟨⟨rfl, rfl⟩, c⟩
  · exact xt_throwS thX2 (by decide +kernel) (by decide +kernel) (by decide +kernel) (by decide +kernel) (by decide +kernel) (by show 6 ≤ d + 6; omega) (by show 82 ≤ 48 * (d + 6); omega) (Nat.le_refl _) (Nat.le_refl _) ⟨rfl, c⟩ rfl rfl
theorem thX9 : xthr RX9 14 16 18 xUO "a step fails" := ⟨wmk 952 (by decide +kernel) rfl, wmk 24 (by decide +kernel) rfl, by decide +kernel, by decide +kernel, by decide +kernel, by decide +kernel, by decide +kernel, by decide +kernel⟩
theorem kX9_fail_0 : zD cX9_fail 0 1 (.iload_n 1) 1 := by decide +kernel
theorem kX9_fail_1 : zB cX9_fail 1 4 14 (.ifCond .eq 13) 13 := by decide +kernel
theorem kX9_fail_14 : zD cX9_fail 14 15 .return_ 1 := by decide +kernel
theorem fX9 {G : ZG} (d : Nat) {h : ZH} {i : Nat} {f : Int32} : xCX G (d + 6) mX9_fail [zr 4 i, zi f] h (fun r h' => (r = none ∧ h' = h) ∧ f = 0) (fun E => E = xUO ∧ ¬ f = 0) := by
  refine xCX_of (by decide +kernel) (Nat.le_of_ble_eq_true rfl) (L := [zu, zi f]) ⟨rfl, trivial⟩ ?_
  refine xt_iload_n kX9_fail_0 rfl ?_
  refine xt_if_eq kX9_fail_1 (fun c => ?_) (fun c => ?_)
  · exact xt_vretX kX9_fail_14 rfl (Nat.zero_le _) (Nat.zero_le _) ⟨⟨rfl, rfl⟩, c⟩
  · exact xt_throwS thX9 (by decide +kernel) (by decide +kernel) (by decide +kernel) (by decide +kernel) (by decide +kernel) (by show 6 ≤ d + 6; omega) (by show 82 ≤ 48 * (d + 6); omega) (Nat.le_refl _) (Nat.le_refl _) ⟨rfl, c⟩ rfl rfl
theorem kX7_fail_0 : zD cX7_fail 0 1 .return_ 1 := by decide +kernel
theorem fX7 {G : ZG} (d : Nat) {h : ZH} {i : Nat} {f : Int32} : xCX G (d + 6) mX7_fail [zr 4 i, zi f] h (fun r h' => r = none ∧ h' = h) (fun _ => False) := by
  refine xCX_of (by decide +kernel) (Nat.le_of_ble_eq_true rfl) (L := []) trivial ?_
  exact xt_vretX kX7_fail_0 rfl (Nat.zero_le _) (Nat.zero_le _) ⟨rfl, rfl⟩
theorem oRX11_353_0 : zOS RX11 353 10 mX10_fail mX10_fail 1 := ⟨RX10, TX10, 0, rfl, ⟨wmk 867 (by decide +kernel) rfl, wmk 870 (by decide +kernel) rfl, wmk 868 (by decide +kernel) rfl, wmk 869 (by decide +kernel) rfl, wmk 868 (by decide +kernel) rfl, wmk 2 (by decide +kernel) rfl, wmk 968 (by decide +kernel) rfl, wmk 968 (by decide +kernel) rfl⟩, ⟨by decide +kernel, by decide +kernel, by decide +kernel⟩, by decide⟩
theorem oRX11_353_1 : zOS RX11 353 2 mX10_fail mX2_fail 1 := ⟨RX2, TX2, 0, rfl, ⟨wmk 867 (by decide +kernel) rfl, wmk 870 (by decide +kernel) rfl, wmk 868 (by decide +kernel) rfl, wmk 873 (by decide +kernel) rfl, wmk 874 (by decide +kernel) rfl, wmk 3 (by decide +kernel) rfl, wmk 875 (by decide +kernel) rfl, wmk 968 (by decide +kernel) rfl⟩, ⟨by decide +kernel, by decide +kernel, by decide +kernel⟩, by decide⟩
theorem oRX11_353_2 : zOS RX11 353 0 mX10_fail mX10_fail 1 := ⟨RX0, TX0, 0, rfl, ⟨wmk 867 (by decide +kernel) rfl, wmk 870 (by decide +kernel) rfl, wmk 868 (by decide +kernel) rfl, wmk 871 (by decide +kernel) rfl, wmk 868 (by decide +kernel) rfl, wmk 2 (by decide +kernel) rfl, wmk 968 (by decide +kernel) rfl, wmk 968 (by decide +kernel) rfl⟩, ⟨by decide +kernel, by decide +kernel, by decide +kernel⟩, by decide⟩
theorem oRX11_353_3 : zOS RX11 353 7 mX10_fail mX7_fail 1 := ⟨RX7, TX7, 0, rfl, ⟨wmk 867 (by decide +kernel) rfl, wmk 870 (by decide +kernel) rfl, wmk 868 (by decide +kernel) rfl, wmk 948 (by decide +kernel) rfl, wmk 946 (by decide +kernel) rfl, wmk 5 (by decide +kernel) rfl, wmk 947 (by decide +kernel) rfl, wmk 968 (by decide +kernel) rfl⟩, ⟨by decide +kernel, by decide +kernel, by decide +kernel⟩, by decide⟩
theorem oRX11_353_4 : zOS RX11 353 5 mX10_fail mX10_fail 1 := ⟨RX5, TX5, 0, rfl, ⟨wmk 867 (by decide +kernel) rfl, wmk 870 (by decide +kernel) rfl, wmk 868 (by decide +kernel) rfl, wmk 944 (by decide +kernel) rfl, wmk 868 (by decide +kernel) rfl, wmk 2 (by decide +kernel) rfl, wmk 968 (by decide +kernel) rfl, wmk 968 (by decide +kernel) rfl⟩, ⟨by decide +kernel, by decide +kernel, by decide +kernel⟩, by decide⟩
theorem oRX11_353_5 : zOS RX11 353 9 mX10_fail mX9_fail 1 := ⟨RX9, TX9, 0, rfl, ⟨wmk 867 (by decide +kernel) rfl, wmk 870 (by decide +kernel) rfl, wmk 868 (by decide +kernel) rfl, wmk 949 (by decide +kernel) rfl, wmk 950 (by decide +kernel) rfl, wmk 7 (by decide +kernel) rfl, wmk 951 (by decide +kernel) rfl, wmk 968 (by decide +kernel) rfl⟩, ⟨by decide +kernel, by decide +kernel, by decide +kernel⟩, by decide⟩
theorem oRX11_353_6 : zOS RX11 353 1 mX10_fail mX10_fail 1 := ⟨RX1, TX1, 0, rfl, ⟨wmk 867 (by decide +kernel) rfl, wmk 870 (by decide +kernel) rfl, wmk 868 (by decide +kernel) rfl, wmk 872 (by decide +kernel) rfl, wmk 868 (by decide +kernel) rfl, wmk 2 (by decide +kernel) rfl, wmk 968 (by decide +kernel) rfl, wmk 968 (by decide +kernel) rfl⟩, ⟨by decide +kernel, by decide +kernel, by decide +kernel⟩, by decide⟩
theorem oRX11_353_7 : zOS RX11 353 6 mX10_fail mX7_fail 1 := ⟨RX6, TX6, 0, rfl, ⟨wmk 867 (by decide +kernel) rfl, wmk 870 (by decide +kernel) rfl, wmk 868 (by decide +kernel) rfl, wmk 945 (by decide +kernel) rfl, wmk 946 (by decide +kernel) rfl, wmk 5 (by decide +kernel) rfl, wmk 947 (by decide +kernel) rfl, wmk 968 (by decide +kernel) rfl⟩, ⟨by decide +kernel, by decide +kernel, by decide +kernel⟩, by decide⟩
def xEx (i : Nat) : String := if i = 1 then xIA else if i = 5 then xUO else xIS
theorem xCX_mono {G : ZG} {d : Nat} {M : ZM} {as : List ZV} {h : ZH} {Q Q' : Option ZV → ZH → Prop} {Px Px' : String → Prop} (k : xCX G d M as h Q Px) (hq : ∀ r h', Q r h' → Q' r h') (hp : ∀ E, Px E → Px' E) : xCX G d M as h Q' Px' := by
  intro p e h1 h2 h3 s m args below h4 h5 h6 h7
  obtain ⟨n, o, a1, a2, a3, a4⟩ := k p e h1 h2 h3 s m args below h4 h5 h6 h7
  refine ⟨n, o, a1, a2, a3, ?_⟩
  rcases a4 with ⟨⟨⟨r, h', b1, b2, b3⟩, b4⟩, b5⟩ | ⟨q, b0, E, ce, L, ⟨b1, b2, b3⟩, b4⟩
  · exact Or.inl ⟨⟨⟨r, h', b1, hq r h' b2, b3⟩, b4⟩, b5⟩
  · exact Or.inr ⟨q, b0, E, ce, L, ⟨hp E b1, b2, b3⟩, b4⟩
theorem oX_fail {G : ZG} (d : Nat) {h : ZH} {i : Nat} (hi : i < 8) (f : Int32) : ∃ N : ZM, zOS RX11 353 (zsc i) mX10_fail N 1 ∧ xCX G (d + 6) N [zr 4 i, zi f] h (fun r h' => (r = none ∧ h' = h) ∧ (i = 3 ∨ i = 7 ∨ f = 0)) (fun E => E = xEx i ∧ ¬ (i = 3 ∨ i = 7 ∨ f = 0)) := by
  rcases zk8 hi with rfl | rfl | rfl | rfl | rfl | rfl | rfl | rfl
  · exact ⟨_, oRX11_353_0, xCX_mono (fX10 d) (fun r h' q => ⟨q.1, Or.inr (Or.inr q.2)⟩) (fun E q => ⟨q.1, fun z => by rcases z with z | z | z; exact absurd z (by decide); exact absurd z (by decide); exact q.2 z⟩)⟩
  · exact ⟨_, oRX11_353_1, xCX_mono (fX2 d) (fun r h' q => ⟨q.1, Or.inr (Or.inr q.2)⟩) (fun E q => ⟨q.1, fun z => by rcases z with z | z | z; exact absurd z (by decide); exact absurd z (by decide); exact q.2 z⟩)⟩
  · exact ⟨_, oRX11_353_2, xCX_mono (fX10 d) (fun r h' q => ⟨q.1, Or.inr (Or.inr q.2)⟩) (fun E q => ⟨q.1, fun z => by rcases z with z | z | z; exact absurd z (by decide); exact absurd z (by decide); exact q.2 z⟩)⟩
  · exact ⟨_, oRX11_353_3, xCX_mono (fX7 d) (fun r h' q => ⟨q, by omega⟩) (fun E q => q.elim)⟩
  · exact ⟨_, oRX11_353_4, xCX_mono (fX10 d) (fun r h' q => ⟨q.1, Or.inr (Or.inr q.2)⟩) (fun E q => ⟨q.1, fun z => by rcases z with z | z | z; exact absurd z (by decide); exact absurd z (by decide); exact q.2 z⟩)⟩
  · exact ⟨_, oRX11_353_5, xCX_mono (fX9 d) (fun r h' q => ⟨q.1, Or.inr (Or.inr q.2)⟩) (fun E q => ⟨q.1, fun z => by rcases z with z | z | z; exact absurd z (by decide); exact absurd z (by decide); exact q.2 z⟩)⟩
  · exact ⟨_, oRX11_353_6, xCX_mono (fX10 d) (fun r h' q => ⟨q.1, Or.inr (Or.inr q.2)⟩) (fun E q => ⟨q.1, fun z => by rcases z with z | z | z; exact absurd z (by decide); exact absurd z (by decide); exact q.2 z⟩)⟩
  · exact ⟨_, oRX11_353_7, xCX_mono (fX7 d) (fun r h' q => ⟨q, by omega⟩) (fun E q => q.elim)⟩
def xhC : List (Nat × Nat × Nat × Nat) := [(0, 5, 8, 357), (0, 5, 19, 301), (0, 5, 25, 312)]
abbrev mX11_caughtOf : ZM := (yX11_caughtOf, cX11_caughtOf, 3, some .int)
def caughtM (k f : Int32) : Int32 := if k = 3 ∨ k = 7 ∨ f = 0 then -15 else if k = 5 then 200 + costI k f else if k = 1 then 100 + f else f
theorem ck_3 {i : Nat} (hi : i < 8) {n : Nat} (hn : n < 8) : nI i = nI n ↔ i = n := by
  constructor
  · intro e
    have := congrArg Int32.toNatClampNeg e
    rwa [nI_cl (by omega), nI_cl (by omega)] at this
  · intro e; rw [e]
theorem caughtM_no {i : Nat} {f : Int32} (z : i = 3 ∨ i = 7 ∨ f = 0) : caughtM (nI i) f = -15 := by
  unfold caughtM
  rw [if_pos]
  rcases z with rfl | rfl | z
  · exact Or.inl rfl
  · exact Or.inr (Or.inl rfl)
  · exact Or.inr (Or.inr z)
theorem caughtM_els {i : Nat} (hi : i < 8) {f : Int32} (z : ¬ (i = 3 ∨ i = 7 ∨ f = 0)) : caughtM (nI i) f = if i = 5 then 200 + costI (nI i) f else if i = 1 then 100 + f else f := by
  unfold caughtM
  rw [if_neg (fun q => z (by
    rcases q with q | q | q
    · exact Or.inl ((ck_3 hi (n := 3) (by decide)).mp q)
    · exact Or.inr (Or.inl ((ck_3 hi (n := 7) (by decide)).mp q))
    · exact Or.inr (Or.inr q)))]
  by_cases a : i = 5
  · rw [if_pos a, if_pos (show nI i = (5 : Int32) from (ck_3 hi (n := 5) (by decide)).mpr a)]
  · rw [if_neg a, if_neg (show ¬ nI i = (5 : Int32) from fun q => a ((ck_3 hi (n := 5) (by decide)).mp q))]
    by_cases b : i = 1
    · rw [if_pos b, if_pos (show nI i = (1 : Int32) from (ck_3 hi (n := 1) (by decide)).mpr b)]
    · rw [if_neg b, if_neg (show ¬ nI i = (1 : Int32) from fun q => b ((ck_3 hi (n := 1) (by decide)).mp q))]
theorem lk357 : Cond.classLink RX11 357 xUO ∈ zall := wmk 864 (by decide +kernel) rfl
theorem lk301 : Cond.classLink RX11 301 xIA ∈ zall := wmk 865 (by decide +kernel) rfl
theorem lk312 : Cond.classLink RX11 312 xIS ∈ zall := wmk 866 (by decide +kernel) rfl
theorem kX11_caughtOf_0 : zD cX11_caughtOf 0 1 (.aload_n 0) 1 := by decide +kernel
theorem kX11_caughtOf_1 : zD cX11_caughtOf 1 2 (.iload_n 1) 1 := by decide +kernel
theorem kX11_caughtOf_2 : zD cX11_caughtOf 2 5 (.invokevirtual 353) 3 := by decide +kernel
theorem kX11_caughtOf_8 : zD cX11_caughtOf 8 9 (.astore_n 2) 1 := by decide +kernel
theorem kX11_caughtOf_9 : zD cX11_caughtOf 9 12 (.sipush 200) 3 := by decide +kernel
theorem kX11_caughtOf_12 : zD cX11_caughtOf 12 13 (.aload_n 0) 1 := by decide +kernel
theorem kX11_caughtOf_13 : zD cX11_caughtOf 13 14 (.iload_n 1) 1 := by decide +kernel
theorem kX11_caughtOf_14 : zD cX11_caughtOf 14 17 (.invokevirtual 335) 3 := by decide +kernel
theorem kX11_caughtOf_17 : zD cX11_caughtOf 17 18 .iadd 1 := by decide +kernel
theorem kX11_caughtOf_18 : zD cX11_caughtOf 18 19 .ireturn 1 := by decide +kernel
theorem kX11_caughtOf_19 : zD cX11_caughtOf 19 20 (.astore_n 2) 1 := by decide +kernel
theorem kX11_caughtOf_20 : zD cX11_caughtOf 20 22 (.bipush 100) 2 := by decide +kernel
theorem kX11_caughtOf_22 : zD cX11_caughtOf 22 23 (.iload_n 1) 1 := by decide +kernel
theorem kX11_caughtOf_23 : zD cX11_caughtOf 23 24 .iadd 1 := by decide +kernel
theorem kX11_caughtOf_24 : zD cX11_caughtOf 24 25 .ireturn 1 := by decide +kernel
theorem kX11_caughtOf_25 : zD cX11_caughtOf 25 26 (.astore_n 2) 1 := by decide +kernel
theorem kX11_caughtOf_26 : zD cX11_caughtOf 26 27 (.iload_n 1) 1 := by decide +kernel
theorem kX11_caughtOf_27 : zD cX11_caughtOf 27 28 .ireturn 1 := by decide +kernel
theorem kX11_caughtOf_28 : zD cX11_caughtOf 28 30 (.bipush (-15)) 2 := by decide +kernel
theorem kX11_caughtOf_30 : zD cX11_caughtOf 30 31 .ireturn 1 := by decide +kernel
theorem kX11_caughtOf_5 : zB cX11_caughtOf 5 8 28 (.goto 23) 23 := by decide +kernel
theorem fCaught {G : ZG} (d : Nat) {h : ZH} {i : Nat} (hi : i < 8) (f : Int32) : xCW G (d + 7) mX11_caughtOf xhC [zr 4 i, zi f] h (fun r h' => r = some (zi (caughtM (nI i) f)) ∧ h' = h) := by
  refine xCW_of (by decide +kernel) (Nat.le_of_ble_eq_true rfl) (L := [zr 4 i, zi f, zu]) ⟨rfl, ⟨rfl, trivial⟩⟩ ?_
  refine xt_aload_n kX11_caughtOf_0 rfl ?_
  refine xt_iload_n kX11_caughtOf_1 rfl ?_
  obtain ⟨N, hs, hC⟩ := oX_fail (G := G) d (h := h) hi f
  refine xt_cOX (d := d + 6) (S := []) (as := [zi f]) kX11_caughtOf_2 hs rfl hi rfl (by simp) rfl (by show d + 6 + 1 ≤ d + 7; omega) (by show 48 * (d + 6) + 48 ≤ 48 * (d + 7); omega) (Nat.le_refl _) (Nat.le_refl _) hC ?_ ?_
  · rintro E ⟨rfl, z⟩
    unfold xEx
    by_cases a1 : i = 1
    · rw [if_pos a1]
      refine xx_catch [⟨0, 5, 8, 357⟩] ⟨0, 5, 19, 301⟩ [⟨0, 5, 25, 312⟩] rfl ?_ (by decide) (by decide) lk301 (by decide) kX11_caughtOf_19 (by decide) rfl ?_
      · intro z hz
        rcases List.mem_singleton.mp hz with rfl
        exact ⟨by decide, _, lk357, by decide⟩
      refine xt_bipush (v := 100) kX11_caughtOf_20 rfl ?_
      refine xt_iload_n kX11_caughtOf_22 rfl ?_
      refine xt_iadd kX11_caughtOf_23 ?_
      refine xt_iret kX11_caughtOf_24 rfl (Nat.le_refl _) (Nat.le_refl _) ⟨?_, rfl⟩
      rw [caughtM_els hi z, if_neg (by omega), if_pos a1]
    · rw [if_neg a1]
      by_cases a5 : i = 5
      · rw [if_pos a5]
        refine xx_catch [] ⟨0, 5, 8, 357⟩ [⟨0, 5, 19, 301⟩, ⟨0, 5, 25, 312⟩] rfl (fun z hz => by cases hz) (by decide) (by decide) lk357 (by decide) kX11_caughtOf_8 (by decide) rfl ?_
        refine xt_sipush (v := 200) kX11_caughtOf_9 rfl ?_
        refine xt_aload_n kX11_caughtOf_12 rfl ?_
        refine xt_iload_n kX11_caughtOf_13 rfl ?_
        refine xt_cX (d := d + 3) (S := [zi 200]) (as := [zi f]) kX11_caughtOf_14 hi rfl (by simp) rfl (by show d + 3 + 1 ≤ d + 7; omega) (by show 48 * (d + 3) + 48 ≤ 48 * (d + 7); omega) (Nat.le_refl _) (Nat.le_refl _) (oX_price d hi f) ?_
        rintro r h1 ⟨rfl, rfl⟩
        refine xt_iadd kX11_caughtOf_17 ?_
        refine xt_iret kX11_caughtOf_18 rfl (Nat.le_refl _) (Nat.le_refl _) ⟨?_, rfl⟩
        rw [caughtM_els hi z, if_pos a5]
      · rw [if_neg a5]
        refine xx_catch [⟨0, 5, 8, 357⟩, ⟨0, 5, 19, 301⟩] ⟨0, 5, 25, 312⟩ [] rfl ?_ (by decide) (by decide) lk312 (by decide) kX11_caughtOf_25 (by decide) rfl ?_
        · intro z hz
          rcases List.mem_cons.mp hz with rfl | hz
          · exact ⟨by decide, _, lk357, by decide⟩
          · rcases List.mem_singleton.mp hz with rfl
            exact ⟨by decide, _, lk301, by decide⟩
        refine xt_iload_n kX11_caughtOf_26 rfl ?_
        refine xt_iret kX11_caughtOf_27 rfl (Nat.le_refl _) (Nat.le_refl _) ⟨?_, rfl⟩
        rw [caughtM_els hi z, if_neg a5, if_neg a1]
  · rintro r h1 ⟨⟨rfl, rfl⟩, z⟩
    refine xt_goto kX11_caughtOf_5 ?_
    refine xt_bipush (v := -15) kX11_caughtOf_28 rfl ?_
    refine xt_iret kX11_caughtOf_30 rfl (Nat.le_refl _) (Nat.le_refl _) ⟨?_, rfl⟩
    rw [caughtM_no z]
theorem kX11_toss_0 : zD cX11_toss 0 1 (.aload_n 0) 1 := by decide +kernel
theorem kX11_toss_1 : zD cX11_toss 1 2 (.iload_n 1) 1 := by decide +kernel
theorem kX11_toss_2 : zD cX11_toss 2 5 (.invokevirtual 114) 3 := by decide +kernel
theorem kX11_toss_5 : zD cX11_toss 5 6 (.istore_n 2) 1 := by decide +kernel
theorem kX11_toss_6 : zD cX11_toss 6 7 (.iload_n 2) 1 := by decide +kernel
theorem kX11_toss_10 : zD cX11_toss 10 11 (.iload_n 2) 1 := by decide +kernel
theorem kX11_toss_11 : zD cX11_toss 11 12 .ireturn 1 := by decide +kernel
theorem kX11_toss_12 : zD cX11_toss 12 13 (.aload_n 0) 1 := by decide +kernel
theorem kX11_toss_13 : zD cX11_toss 13 16 (.getfield 62) 3 := by decide +kernel
theorem kX11_toss_16 : zD cX11_toss 16 17 (.iload_n 1) 1 := by decide +kernel
theorem kX11_toss_17 : zD cX11_toss 17 18 .aaload 1 := by decide +kernel
theorem kX11_toss_18 : zD cX11_toss 18 19 (.astore_n 3) 1 := by decide +kernel
theorem kX11_toss_19 : zD cX11_toss 19 20 (.aload_n 0) 1 := by decide +kernel
theorem kX11_toss_20 : zD cX11_toss 20 23 (.getfield 33) 3 := by decide +kernel
theorem kX11_toss_23 : zD cX11_toss 23 24 (.aload_n 3) 1 := by decide +kernel
theorem kX11_toss_24 : zD cX11_toss 24 27 (.getfield 117) 3 := by decide +kernel
theorem kX11_toss_27 : zD cX11_toss 27 28 .aaload 1 := by decide +kernel
theorem kX11_toss_28 : zD cX11_toss 28 29 (.aload_n 3) 1 := by decide +kernel
theorem kX11_toss_29 : zD cX11_toss 29 32 (.getfield 120) 3 := by decide +kernel
theorem kX11_toss_32 : zD cX11_toss 32 35 (.invokestatic 338) 3 := by decide +kernel
theorem kX11_toss_35 : zD cX11_toss 35 36 .ireturn 1 := by decide +kernel
theorem kX11_toss_7 : zB cX11_toss 7 10 12 (.ifCond .eq 5) 5 := by decide +kernel
theorem sRX11_338 : xSW RX11 338 mX11_caughtOf xhC 2 := ⟨⟨wmk 861 (by decide +kernel) rfl, wmk 862 (by decide +kernel) rfl, wmk 1 (by decide +kernel) rfl, wmk 863 (by decide +kernel) rfl⟩, ⟨by decide +kernel, by decide +kernel, by decide +kernel⟩, by decide⟩
def tossV (h : ZH) (x : Int32) : Int32 := if kindRefI h x = 0 then caughtM (h.1 39 0 x.toNatClampNeg) (h.1 40 0 x.toNatClampNeg) else kindRefI h x
theorem pX11_toss {G : ZG} (d : Nat) {h : ZH} (s : SH h) (x : Int32) : xC G (d + 8) mX11_toss [zr 0 0, zi x] h (fun r h' => r = some (zi (tossV h x)) ∧ h' = h) := by
  refine xC_of (by decide +kernel) (Nat.le_of_ble_eq_true rfl) (L := [zr 0 0, zi x, zu, zu]) ⟨rfl, ⟨rfl, trivial⟩⟩ ?_
  refine xt_aload_n kX11_toss_0 rfl ?_
  refine xt_iload_n kX11_toss_1 rfl ?_
  refine xt_cV (d := d + 2) (S := []) (as := [zi x]) kX11_toss_2 sRX11_114 rfl (by decide) rfl (by simp) rfl (by show d + 2 + 1 ≤ d + 8; omega) (by show 48 * (d + 2) + 48 ≤ 48 * (d + 8); omega) (Nat.zero_le _) (Nat.zero_le _) (sX11_kindRefused d) ?_
  rintro r h1 ⟨rfl, rfl⟩
  refine xt_istore_n (L' := [zr 0 0, zi x, zi (kindRefI h1 x), zu]) kX11_toss_5 (by decide) rfl ?_
  refine xt_iload_n kX11_toss_6 rfl ?_
  unfold tossV
  refine xt_if_eq kX11_toss_7 (fun z => ?_) (fun z => ?_)
  · obtain ⟨dd, k, f, hd, hk, hf, rfl, r1, r2, r3, r4⟩ := kr_0 s z
    rw [if_pos z, nI_cl (show dd ≤ 4096 by omega), r3, r4]
    refine xt_aload_n kX11_toss_12 rfl ?_
    refine xt_get (v := zr 22 0) kX11_toss_13 fRX11_62 rfl (by decide) rfl ?_
    refine xt_iload_n kX11_toss_16 rfl ?_
    refine xt_aaldH kX11_toss_17 (vpn hd (by decide)) ?_
    rw [nI_cl (show dd ≤ 4096 by omega)]
    refine xt_astore_n (L' := [zr 0 0, zi (nI dd), zi (kindRefI h1 (nI dd)), zr 3 dd]) kX11_toss_18 (by decide) rfl ?_
    refine xt_aload_n kX11_toss_19 rfl ?_
    refine xt_get (v := zr 21 0) kX11_toss_20 fRX11_33 rfl (by decide) rfl ?_
    refine xt_aload_n kX11_toss_23 rfl ?_
    refine xt_get (v := zi (nI k)) kX11_toss_24 fRX11_117 rfl hd (by rw [← r1]; rfl) ?_
    refine xt_aaldS kX11_toss_27 (vpn hk (by decide)) ?_
    rw [nI_cl (show k ≤ 4096 by omega)]
    refine xt_aload_n kX11_toss_28 rfl ?_
    refine xt_get (v := zi (nI f)) kX11_toss_29 fRX11_120 rfl hd (by rw [← r2]; rfl) ?_
    refine xt_cSW (d := d + 7) (S := []) (as := [zr 4 k, zi (nI f)]) kX11_toss_32 sRX11_338 rfl (by simp) rfl (by show d + 7 + 1 ≤ d + 8; omega) (by show 48 * (d + 7) + 48 ≤ 48 * (d + 8); omega) (Nat.le_refl _) (Nat.le_refl _) (fCaught d hk (nI f)) ?_
    rintro r h2 ⟨rfl, rfl⟩
    exact xt_iret kX11_toss_35 rfl (Nat.le_refl _) (Nat.le_refl _) ⟨rfl, rfl⟩
  · rw [if_neg z]
    refine xt_iload_n kX11_toss_10 rfl ?_
    exact xt_iret kX11_toss_11 rfl (Nat.zero_le _) (Nat.zero_le _) ⟨rfl, rfl⟩
