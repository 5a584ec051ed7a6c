set_option maxHeartbeats 2000000 in
theorem l_loop {G : ZG} {L : Nat} {xs : Nat → Int32} (hL : L ≤ 3072) : ∀ (f t : Nat), f + t = 513 → t ≤ 512 → ∀ h, JY (200 * t) h → lT G L xs 23 (lL (6 * t)) [] h (69 + t) (22586 + 6 * t) := by
  intro f
  induction f with
  | zero => intro t h1 h2; omega
  | succ f ih =>
    intro t h1 h2 h jy
    refine xt_iload hd_23 rfl ?_
    refine xt_aload_n hd_25 rfl ?_
    refine l_len hd_26 ?_
    refine xt_bipush (v := 6) hd_27 rfl ?_
    refine xt_isub hd_29 ?_
    have eL : (Int32.ofNat L).toInt = L := nI_toInt (n := L) (by omega)
    have o6 : (6 : Int32).toInt = 6 := by decide
    have eS : (Int32.ofNat L - 6).toInt = L - 6 := by
      rw [fb_subI (by rw [eL, o6]; omega) (by rw [eL, o6]; omega), eL, o6]
    refine xt_icmp_gt hd_30 (fun _ => ?_) (fun z => ?_)
    · refine xt_iconst (v := 1) hd_1387 rfl ?_
      exact l_end (by decide +kernel) (by omega) (by omega)
    have z2 : nI (6 * t) ≤ Int32.ofNat L - 6 := Int32.not_lt.mp z
    rw [fa_le, eS, nI_toInt (n := 6 * t) (by omega)] at z2
    have z3 : 6 * t + 6 ≤ L := by omega
    refine xt_aload_n hd_33 rfl ?_
    refine xt_iload hd_34 rfl ?_
    refine l_sld hd_36 (vpn (show 6 * t < L by omega) (by omega)) ?_
    refine xt_bipush (v := 63) hd_37 rfl ?_
    refine xt_iand hd_39 ?_
    have next : ∀ h2, JY (200 * t + 200) h2 → lT G L xs 1381 (lL (6 * t)) [] h2 (69 + t + 1) (22586 + 6 * t + 6) := by
      intro h2 j2
      refine xt_iinc (x := nI (6 * t)) (v := nI (6 * (t + 1))) (L' := lL (6 * (t + 1))) hd_1381 rfl ?_ (by decide) rfl ?_
      · show nI (6 * t) + nI 6 = nI (6 * (t + 1))
        rw [nI_add]
        congr 1
      refine xt_goto hd_1384 ?_
      have j3 : JY (200 * (t + 1)) h2 := by
        rw [show 200 * (t + 1) = 200 * t + 200 by omega]
        exact j2
      have k := ih (t + 1) (by omega) (by omega) h2 j3
      have e1 : 69 + (t + 1) = 69 + t + 1 := by omega
      have e2 : 22586 + 6 * (t + 1) = 22586 + 6 * t + 6 := by omega
      rw [e1, e2] at k
      exact k
    generalize xs (nI (6 * t)).toNatClampNeg &&& 63 = x
    by_cases c0 : x = 0
    · exact xt_tabIn (tgt := 208) hd_40 (by rw [c0]; decide) (by rw [c0]; decide) (by rw [c0]; rfl) (by decide) (cas0 jy (by omega) hL (by omega) (by omega) (by omega) next)
    by_cases c1 : x = 1
    · exact xt_tabIn (tgt := 233) hd_40 (by rw [c1]; decide) (by rw [c1]; decide) (by rw [c1]; rfl) (by decide) (cas1 jy (by omega) hL (by omega) (by omega) (by omega) next)
    by_cases c2 : x = 2
    · exact xt_tabIn (tgt := 270) hd_40 (by rw [c2]; decide) (by rw [c2]; decide) (by rw [c2]; rfl) (by decide) (cas2 jy (by omega) hL (by omega) (by omega) (by omega) next)
    by_cases c3 : x = 3
    · exact xt_tabIn (tgt := 307) hd_40 (by rw [c3]; decide) (by rw [c3]; decide) (by rw [c3]; rfl) (by decide) (cas3 jy (by omega) hL (by omega) (by omega) (by omega) next)
    by_cases c4 : x = 4
    · exact xt_tabIn (tgt := 332) hd_40 (by rw [c4]; decide) (by rw [c4]; decide) (by rw [c4]; rfl) (by decide) (cas4 jy (by omega) hL (by omega) (by omega) (by omega) next)
    by_cases c5 : x = 5
    · exact xt_tabIn (tgt := 357) hd_40 (by rw [c5]; decide) (by rw [c5]; decide) (by rw [c5]; rfl) (by decide) (cas5 jy (by omega) hL (by omega) (by omega) (by omega) next)
    by_cases c6 : x = 6
    · exact xt_tabIn (tgt := 394) hd_40 (by rw [c6]; decide) (by rw [c6]; decide) (by rw [c6]; rfl) (by decide) (cas6 jy (by omega) hL (by omega) (by omega) (by omega) next)
    by_cases c7 : x = 7
    · exact xt_tabIn (tgt := 419) hd_40 (by rw [c7]; decide) (by rw [c7]; decide) (by rw [c7]; rfl) (by decide) (cas7 jy (by omega) hL (by omega) (by omega) (by omega) next)
    by_cases c8 : x = 8
    · exact xt_tabIn (tgt := 432) hd_40 (by rw [c8]; decide) (by rw [c8]; decide) (by rw [c8]; rfl) (by decide) (cas8 jy (by omega) hL (by omega) (by omega) (by omega) next)
    by_cases c9 : x = 9
    · exact xt_tabIn (tgt := 469) hd_40 (by rw [c9]; decide) (by rw [c9]; decide) (by rw [c9]; rfl) (by decide) (cas9 jy (by omega) hL (by omega) (by omega) (by omega) next)
    by_cases c10 : x = 10
    · exact xt_tabIn (tgt := 494) hd_40 (by rw [c10]; decide) (by rw [c10]; decide) (by rw [c10]; rfl) (by decide) (cas10 jy (by omega) hL (by omega) (by omega) (by omega) next)
    by_cases c11 : x = 11
    · exact xt_tabIn (tgt := 507) hd_40 (by rw [c11]; decide) (by rw [c11]; decide) (by rw [c11]; rfl) (by decide) (cas11 jy (by omega) hL (by omega) (by omega) (by omega) next)
    by_cases c12 : x = 12
    · exact xt_tabIn (tgt := 532) hd_40 (by rw [c12]; decide) (by rw [c12]; decide) (by rw [c12]; rfl) (by decide) (cas12 jy (by omega) hL (by omega) (by omega) (by omega) next)
    by_cases c13 : x = 13
    · exact xt_tabIn (tgt := 557) hd_40 (by rw [c13]; decide) (by rw [c13]; decide) (by rw [c13]; rfl) (by decide) (cas13 jy (by omega) hL (by omega) (by omega) (by omega) next)
    by_cases c14 : x = 14
    · exact xt_tabIn (tgt := 607) hd_40 (by rw [c14]; decide) (by rw [c14]; decide) (by rw [c14]; rfl) (by decide) (cas14 jy (by omega) hL (by omega) (by omega) (by omega) next)
    by_cases c15 : x = 15
    · exact xt_tabIn (tgt := 632) hd_40 (by rw [c15]; decide) (by rw [c15]; decide) (by rw [c15]; rfl) (by decide) (cas15 jy (by omega) hL (by omega) (by omega) (by omega) next)
    by_cases c16 : x = 16
    · exact xt_tabIn (tgt := 669) hd_40 (by rw [c16]; decide) (by rw [c16]; decide) (by rw [c16]; rfl) (by decide) (cas16 jy (by omega) hL (by omega) (by omega) (by omega) next)
    by_cases c17 : x = 17
    · exact xt_tabIn (tgt := 694) hd_40 (by rw [c17]; decide) (by rw [c17]; decide) (by rw [c17]; rfl) (by decide) (cas17 jy (by omega) hL (by omega) (by omega) (by omega) next)
    by_cases c18 : x = 18
    · exact xt_tabIn (tgt := 707) hd_40 (by rw [c18]; decide) (by rw [c18]; decide) (by rw [c18]; rfl) (by decide) (cas18 jy (by omega) hL (by omega) (by omega) (by omega) next)
    by_cases c19 : x = 19
    · exact xt_tabIn (tgt := 732) hd_40 (by rw [c19]; decide) (by rw [c19]; decide) (by rw [c19]; rfl) (by decide) (cas19 jy (by omega) hL (by omega) (by omega) (by omega) next)
    by_cases c20 : x = 20
    · exact xt_tabIn (tgt := 757) hd_40 (by rw [c20]; decide) (by rw [c20]; decide) (by rw [c20]; rfl) (by decide) (cas20 jy (by omega) hL (by omega) (by omega) (by omega) next)
    by_cases c21 : x = 21
    · exact xt_tabIn (tgt := 794) hd_40 (by rw [c21]; decide) (by rw [c21]; decide) (by rw [c21]; rfl) (by decide) (cas21 jy (by omega) hL (by omega) (by omega) (by omega) next)
    by_cases c22 : x = 22
    · exact xt_tabIn (tgt := 819) hd_40 (by rw [c22]; decide) (by rw [c22]; decide) (by rw [c22]; rfl) (by decide) (cas22 jy (by omega) hL (by omega) (by omega) (by omega) next)
    by_cases c23 : x = 23
    · exact xt_tabIn (tgt := 844) hd_40 (by rw [c23]; decide) (by rw [c23]; decide) (by rw [c23]; rfl) (by decide) (cas23 jy (by omega) hL (by omega) (by omega) (by omega) next)
    by_cases c24 : x = 24
    · exact xt_tabIn (tgt := 893) hd_40 (by rw [c24]; decide) (by rw [c24]; decide) (by rw [c24]; rfl) (by decide) (cas24 jy (by omega) hL (by omega) (by omega) (by omega) next)
    by_cases c25 : x = 25
    · exact xt_tabIn (tgt := 918) hd_40 (by rw [c25]; decide) (by rw [c25]; decide) (by rw [c25]; rfl) (by decide) (cas25 jy (by omega) hL (by omega) (by omega) (by omega) next)
    by_cases c26 : x = 26
    · exact xt_tabIn (tgt := 931) hd_40 (by rw [c26]; decide) (by rw [c26]; decide) (by rw [c26]; rfl) (by decide) (cas26 jy (by omega) hL (by omega) (by omega) (by omega) next)
    by_cases c27 : x = 27
    · exact xt_tabIn (tgt := 956) hd_40 (by rw [c27]; decide) (by rw [c27]; decide) (by rw [c27]; rfl) (by decide) (cas27 jy (by omega) hL (by omega) (by omega) (by omega) next)
    by_cases c28 : x = 28
    · exact xt_tabIn (tgt := 981) hd_40 (by rw [c28]; decide) (by rw [c28]; decide) (by rw [c28]; rfl) (by decide) (cas28 jy (by omega) hL (by omega) (by omega) (by omega) next)
    by_cases c29 : x = 29
    · exact xt_tabIn (tgt := 994) hd_40 (by rw [c29]; decide) (by rw [c29]; decide) (by rw [c29]; rfl) (by decide) (cas29 jy (by omega) hL (by omega) (by omega) (by omega) next)
    by_cases c30 : x = 30
    · exact xt_tabIn (tgt := 1007) hd_40 (by rw [c30]; decide) (by rw [c30]; decide) (by rw [c30]; rfl) (by decide) (cas30 jy (by omega) hL (by omega) (by omega) (by omega) next)
    by_cases c31 : x = 31
    · exact xt_tabIn (tgt := 1032) hd_40 (by rw [c31]; decide) (by rw [c31]; decide) (by rw [c31]; rfl) (by decide) (cas31 jy (by omega) hL (by omega) (by omega) (by omega) next)
    by_cases c32 : x = 32
    · exact xt_tabIn (tgt := 1093) hd_40 (by rw [c32]; decide) (by rw [c32]; decide) (by rw [c32]; rfl) (by decide) (cas32 jy (by omega) hL (by omega) (by omega) (by omega) next)
    by_cases c33 : x = 33
    · exact xt_tabIn (tgt := 1142) hd_40 (by rw [c33]; decide) (by rw [c33]; decide) (by rw [c33]; rfl) (by decide) (cas33 jy (by omega) hL (by omega) (by omega) (by omega) next)
    by_cases c34 : x = 34
    · exact xt_tabIn (tgt := 1191) hd_40 (by rw [c34]; decide) (by rw [c34]; decide) (by rw [c34]; rfl) (by decide) (cas34 jy (by omega) hL (by omega) (by omega) (by omega) next)
    by_cases c35 : x = 35
    · exact xt_tabIn (tgt := 1258) hd_40 (by rw [c35]; decide) (by rw [c35]; decide) (by rw [c35]; rfl) (by decide) (cas35 jy (by omega) hL (by omega) (by omega) (by omega) next)
    by_cases c36 : x = 36
    · exact xt_tabIn (tgt := 1331) hd_40 (by rw [c36]; decide) (by rw [c36]; decide) (by rw [c36]; rfl) (by decide) (cas36 jy (by omega) hL (by omega) (by omega) (by omega) next)
    by_cases c37 : x = 37
    · exact xt_tabIn (tgt := 1356) hd_40 (by rw [c37]; decide) (by rw [c37]; decide) (by rw [c37]; rfl) (by decide) (cas37 jy (by omega) hL (by omega) (by omega) (by omega) next)
    exact xt_tabOut (tgt := 1381) hd_40 (by have n0 := lv_neT (a := 0) c0 rfl; have n1 := lv_neT (a := 1) c1 rfl; have n2 := lv_neT (a := 2) c2 rfl; have n3 := lv_neT (a := 3) c3 rfl; have n4 := lv_neT (a := 4) c4 rfl; have n5 := lv_neT (a := 5) c5 rfl; have n6 := lv_neT (a := 6) c6 rfl; have n7 := lv_neT (a := 7) c7 rfl; have n8 := lv_neT (a := 8) c8 rfl; have n9 := lv_neT (a := 9) c9 rfl; have n10 := lv_neT (a := 10) c10 rfl; have n11 := lv_neT (a := 11) c11 rfl; have n12 := lv_neT (a := 12) c12 rfl; have n13 := lv_neT (a := 13) c13 rfl; have n14 := lv_neT (a := 14) c14 rfl; have n15 := lv_neT (a := 15) c15 rfl; have n16 := lv_neT (a := 16) c16 rfl; have n17 := lv_neT (a := 17) c17 rfl; have n18 := lv_neT (a := 18) c18 rfl; have n19 := lv_neT (a := 19) c19 rfl; have n20 := lv_neT (a := 20) c20 rfl; have n21 := lv_neT (a := 21) c21 rfl; have n22 := lv_neT (a := 22) c22 rfl; have n23 := lv_neT (a := 23) c23 rfl; have n24 := lv_neT (a := 24) c24 rfl; have n25 := lv_neT (a := 25) c25 rfl; have n26 := lv_neT (a := 26) c26 rfl; have n27 := lv_neT (a := 27) c27 rfl; have n28 := lv_neT (a := 28) c28 rfl; have n29 := lv_neT (a := 29) c29 rfl; have n30 := lv_neT (a := 30) c30 rfl; have n31 := lv_neT (a := 31) c31 rfl; have n32 := lv_neT (a := 32) c32 rfl; have n33 := lv_neT (a := 33) c33 rfl; have n34 := lv_neT (a := 34) c34 rfl; have n35 := lv_neT (a := 35) c35 rfl; have n36 := lv_neT (a := 36) c36 rfl; have n37 := lv_neT (a := 37) c37 rfl; omega) (by decide) (xt_wide (by omega) (by omega) (next h (by obtain ⟨S, c, e, m, hm, j⟩ := jy; exact ⟨S, c, e, m, by omega, j⟩)))
