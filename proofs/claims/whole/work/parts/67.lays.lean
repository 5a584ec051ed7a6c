/-! ===== lays, both sides ===== -/
theorem zor_pc {S p : Nat} (hS : S < 4096) (hp : p < 12) (hb : ¬ S.testBit p = true) : zpc (S ||| 2 ^ p) = zpc S + 1 := by
  have hT : S ||| 2 ^ p < 4096 := zor_lt hS (zp_lt hp)
  have h1 : (S ||| 2 ^ p).testBit p = true := by rw [Nat.testBit_or, zp_bit]; simp
  have e : zsd (S ||| 2 ^ p) (2 ^ p) = S := by
    apply zs_ext (zsd_lt hT) hS
    intro q _
    rw [zsd_bit hT, Nat.testBit_or, zp_bit]
    by_cases z : p = q
    · subst z
      simp [eq_false_of_ne_true hb]
    · simp [z]
  have := zsd_pc hT h1
  rw [e] at this
  exact this.symm
theorem i_s2 {p : Nat} (hp : p < 12) : (2 + 2 * nI p).toNatClampNeg = 2 + 2 * p := by
  have : ∀ p, p < 12 → (2 + 2 * nI p).toNatClampNeg = 2 + 2 * p := by decide
  exact this p hp
theorem i_s3 {p : Nat} (hp : p < 12) : (2 + 2 * nI p + 1).toNatClampNeg = 2 + 2 * p + 1 := by
  have : ∀ p, p < 12 → (2 + 2 * nI p + 1).toNatClampNeg = 2 + 2 * p + 1 := by decide
  exact this p hp
/-- what one act of the model on its hall writes -/
def eMs (k i j : Nat) : Bool := eS k j || decide (k = 30 ∧ i = 0)
theorem eMs_M {k i j : Nat} (h : eMh k i j = false) : eMs k i j = false := by
  unfold eMh eV at h
  unfold eMs
  simp only [Bool.or_eq_false_iff] at h ⊢
  exact ⟨h.1.1, h.2⟩
theorem eS_Ms {k i j : Nat} (h : eMs k i j = false) : eS k j = false := by
  unfold eMs at h
  simp only [Bool.or_eq_false_iff] at h
  exact h.1
theorem eMs_no {k i j : Nat} (h : k ≠ 33) (h2 : k = 5 → j ≠ 5) (h3 : k ≠ 30) : eMs k i j = false := by
  unfold eMs eS
  simp [h, h3]
  exact h2
theorem sX12_laysAt {G : ZG} (d : Nat) {h : ZH} {S p : Nat} {k f : Int32} {e : ZQ5} (m : RM0 h S e) (hp : p < 12) : zC G (d + 6) mX12_laysAt [zr 5 0, zi (nI p), zi k, zi f] h (fun r h2 => r = none ∧ RM0 h2 (stl (cfgH h2 (cP e)) (S ||| 2 ^ p)) (cfgH h2 (cP e)) ∧ (h2.1 30 0 (2 + 2 * p) = k ∧ h2.1 30 0 (2 + 2 * p + 1) = f) ∧ (∀ j, 2 ≤ j → j ≠ 2 + 2 * p → j ≠ 2 + 2 * p + 1 → h2.1 30 0 j = h.1 30 0 j) ∧ zfz eMs h h2) := by
  refine zC_of (by decide +kernel) (Nat.le_of_ble_eq_true rfl) (L := [zr 5 0, zi (nI p), zi k, zi f]) ⟨rfl, ⟨rfl, ⟨rfl, ⟨rfl, trivial⟩⟩⟩⟩ ?_
  refine wX12_laysAt_0 ?_
  have v : vp_in (nI p) 12 := vpn hp (by decide)
  refine ⟨vp_s2 v, ?_⟩
  intro h1 e1
  refine ⟨vp_s3 v, ?_⟩
  intro h4 e4
  rw [i_s2 hp] at e1
  rw [i_s3 hp] at e4
  have o4 : ∀ j, j ≠ 2 + 2 * p → j ≠ 2 + 2 * p + 1 → h4.1 30 0 j = h.1 30 0 j := fun j a b => by
    rw [e4, zs1_at, if_neg (fun q => b q.2.2), e1, zs1_at, if_neg (fun q => a q.2.2)]
  have k4 : h4.1 30 0 (2 + 2 * p) = k := by rw [e4, zs1_at, if_neg (fun q => by omega), e1, zs1_at, if_pos ⟨rfl, rfl, rfl⟩]
  have g4 : h4.1 30 0 (2 + 2 * p + 1) = f := by rw [e4, zs1_at, if_pos ⟨rfl, rfl, rfl⟩]
  have hS := m.1
  have hP := m.2.1
  have m4 : RM0 h4 S (cfgH h4 (cP e)) := ⟨hS, hP, by rw [o4 0 (by omega) (by omega)]; exact m.2.2.1, by rw [o4 1 (by omega) (by omega)]; exact m.2.2.2.1, rfl⟩
  have hT : S ||| 2 ^ p < 4096 := zor_lt hS (zp_lt hp)
  rw [m4.2.2.1, zi_sh hp, zi_or]
  refine zC_mono (kX0_settled d m4 hT) ?_
  rintro r h5 ⟨rfl, _, m5, f5⟩
  refine ⟨_, rfl, ?_⟩
  intro h6 e6
  have a6 : ∀ j, 2 ≤ j → h6.1 30 0 j = h5.1 30 0 j := fun j hj => by rw [e6, zs1_at, if_neg (by omega)]
  have b6 : ∀ j, 2 ≤ j → h6.1 30 0 j = h4.1 30 0 j := fun j hj => (a6 j hj).trans (f5 30 0 j (eS_no (by decide) (by decide))).1
  have q := m5.put (h2 := h6) (S' := stl (cfgH h4 (cP e)) (S ||| 2 ^ p)) (P' := cP e) (stl_lt _ hT) hP (by rw [e6, zs1_at, if_pos ⟨rfl, rfl, rfl⟩]) (by rw [e6, zs1_at, if_neg (by simp)]; exact m5.2.2.2.1) a6
  have st : stl (cfgH h6 (cP e)) (S ||| 2 ^ p) = stl (cfgH h4 (cP e)) (S ||| 2 ^ p) := stl_eq hT (q.2 _)
  refine ⟨rfl, ?_, ⟨?_, ?_⟩, ?_, ?_⟩
  · rw [st]; exact q.1
  · rw [b6 _ (by omega)]; exact k4
  · rw [b6 _ (by omega)]; exact g4
  · intro j hj a b
    rw [b6 j hj]; exact o4 j a b
  · rw [e6]
    refine (?_ : zfz eMs h h4).tr ((zfz.of f5 fun _ _ _ => eS_Ms).tr (zfz.s1 eMs h5 _ (by unfold eMs; simp)))
    rw [e4, e1]
    exact (zfz.s1 eMs h _ (by unfold eMs; simp)).tr (zfz.s1 eMs _ _ (by unfold eMs; simp))
/-- laid on both sides: together again -/
theorem JX.lay {h h1 h2 : ZH} {S p k f : Nat} {c e : ZQ5} {N : ZN} (j : JX h S c e N) (hp : p < 12) (hk : k < 8) (hf : f < 10) {c' : ZQ5} (ec : c' = (upd (cW c) p (wgtI (nI k) (nI f)), upd (cB c) p (brsI (nI k) (nI f)), upd (cM c) p (mnrI (nI k)), (if mnrI (nI k) = 3 then zsd (cF c) (2 ^ p) else cF c ||| 2 ^ p), cP c)) (rc : RC0 h1 (stl c' (S ||| 2 ^ p)) c' (N.1 + 1)) (r10 : h1.1 10 0 = upd (h.1 10 0) p (nI k)) (r11 : h1.1 11 0 = upd (h.1 11 0) p (nI f)) (fM : zfz eM h h1) (rm : RM0 h2 (stl (cfgH h2 (cP e)) (S ||| 2 ^ p)) (cfgH h2 (cP e))) (k2 : h2.1 30 0 (2 + 2 * p) = nI k) (g2 : h2.1 30 0 (2 + 2 * p + 1) = nI f) (a2 : ∀ jj, 2 ≤ jj → jj ≠ 2 + 2 * p → jj ≠ 2 + 2 * p + 1 → h2.1 30 0 jj = h1.1 30 0 jj) (fm : zfz eMh h1 h2) : stl c' (S ||| 2 ^ p) = stl (cfgH h2 (cP e)) (S ||| 2 ^ p) ∧ JX h2 (stl c' (S ||| 2 ^ p)) c' (cfgH h2 (cP e)) (N.1 + 1, h2) := by
  have hS := j.lt
  have hF := j.c.2.2.1
  have hT : S ||| 2 ^ p < 4096 := zor_lt hS (zp_lt hp)
  have cc := rc.2.2.2.2.2.2.1
  have c0 := j.c.2.2.2.2.2.2.1
  have ePP : cP c' = cP e := by rw [ec]; exact j.eq.1
  have o12 : ∀ k i jj, 10 ≤ k → k ≤ 14 → h2.1 k i jj = h1.1 k i jj := fun k i jj a b => (fm k i jj (eMh_no (by unfold eV; rw [eS_no (by omega) (by omega)]; simp; omega) (by omega))).1
  have w12 : h1.1 12 0 = cW c' := congrArg (fun q : ZQ5 => q.1) cc
  have w13 : h1.1 13 0 = cB c' := congrArg (fun q : ZQ5 => q.2.1) cc
  have w14 : h1.1 14 0 = cM c' := congrArg (fun q : ZQ5 => q.2.2.1) cc
  have v12 : h.1 12 0 = cW c := congrArg (fun q : ZQ5 => q.1) c0
  have v13 : h.1 13 0 = cB c := congrArg (fun q : ZQ5 => q.2.1) c0
  have v14 : h.1 14 0 = cM c := congrArg (fun q : ZQ5 => q.2.2.1) c0
  have w : PW h2 0 30 (S ||| 2 ^ p) (cF c') := by
    intro q hq hb
    by_cases z : q = p
    · subst z
      refine ⟨k, f, hk, hf, k2, g2, ?_, ?_, ?_, ?_, ?_, ?_⟩
      · rw [o12 10 0 q (by decide) (by decide), r10]; unfold upd; simp
      · rw [o12 11 0 q (by decide) (by decide), r11]; unfold upd; simp
      · rw [o12 12 0 q (by decide) (by decide), w12, ec]; show upd _ _ _ _ = _; unfold upd; simp
      · rw [o12 13 0 q (by decide) (by decide), w13, ec]; show upd _ _ _ _ = _; unfold upd; simp
      · rw [o12 14 0 q (by decide) (by decide), w14, ec]; show upd _ _ _ _ = _; unfold upd; simp
      · have ef : cF c' = (if mnrI (nI k) = 3 then zsd (cF c) (2 ^ q) else cF c ||| 2 ^ q) := by rw [ec]
        rw [ef]
        by_cases m3 : mnrI (nI k) = 3
        · rw [if_pos m3, zsd_bit hF, zp_bit]; simp [m3]
        · rw [if_neg m3, Nat.testBit_or, zp_bit]; simp [m3]
    · have hb' : S.testBit q = true := by
        rw [Nat.testBit_or, zp_bit] at hb
        simpa [Ne.symm z] using hb
      obtain ⟨k', f', hk', hf', b1, b2, b3, b4, b5, b6, b7, b8⟩ := j.1.2.2.2.2.2.2.2.2.1 q hq hb'
      have n30 : ∀ jj, h1.1 30 0 jj = h.1 30 0 jj := fun jj => (fM 30 0 jj (by unfold eM; simp)).1
      refine ⟨k', f', hk', hf', ?_, ?_, ?_, ?_, ?_, ?_, ?_, ?_⟩
      · rw [a2 _ (by omega) (by omega) (by omega), n30]; exact b1
      · rw [a2 _ (by omega) (by omega) (by omega), n30]; exact b2
      · rw [o12 10 0 q (by decide) (by decide), r10, pk_un z]; exact b3
      · rw [o12 11 0 q (by decide) (by decide), r11, pk_un z]; exact b4
      · rw [o12 12 0 q (by decide) (by decide), w12, ec]; show upd _ _ _ _ = _; rw [pk_un z, ← v12]; exact b5
      · rw [o12 13 0 q (by decide) (by decide), w13, ec]; show upd _ _ _ _ = _; rw [pk_un z, ← v13]; exact b6
      · rw [o12 14 0 q (by decide) (by decide), w14, ec]; show upd _ _ _ _ = _; rw [pk_un z, ← v14]; exact b7
      · have ef : cF c' = (if mnrI (nI k) = 3 then zsd (cF c) (2 ^ p) else cF c ||| 2 ^ p) := by rw [ec]
        rw [ef, ← b8]
        by_cases m3 : mnrI (nI k) = 3
        · rw [if_pos m3, zsd_bit hF, zp_bit]; simp [Ne.symm z]
        · rw [if_neg m3, Nat.testBit_or, zp_bit]; simp [Ne.symm z]
  have ce : cEq c' (cfgH h2 (cP e)) (S ||| 2 ^ p) := by
    have := w.eq (P := cP c')
    rw [cfgC_row (h := h1) (funext fun x => o12 12 0 x (by decide) (by decide)) (funext fun x => o12 13 0 x (by decide) (by decide)) (funext fun x => o12 14 0 x (by decide) (by decide)), cc, ePP] at this
    exact this
  have st : stl c' (S ||| 2 ^ p) = stl (cfgH h2 (cP e)) (S ||| 2 ^ p) := stl_eq hT ce
  refine ⟨st, ?_⟩
  refine j.again (fM.mono fun _ _ _ => eM_C) fm rc (by rw [st]; exact rm) (w.sub (stl_le _ hT)) ePP ?_
  rw [st]
  exact stl_fix _ hT
theorem two_lays {G : ZG} (d n : Nat) {h : ZH} (hn : n + 200 < 2 ^ 30) (jy : JY n h) (x1 x2 : Int32) : zTwo G (d + 7) mX11_lays mX12_lays [zi x1, zi x2] n h := by
  obtain ⟨S, c, e, m, hm, j⟩ := jy
  refine zC_of (by decide +kernel) (Nat.le_of_ble_eq_true rfl) (L := [zr 0 0, zi x1, zi x2, zu, zu]) ⟨rfl, ⟨rfl, ⟨rfl, trivial⟩⟩⟩ ?_
  refine wX11_lays_0 (d := d + 1) ?_
  have K : kindRefI h x1 = wKeptI h x1 := kr_eq j.sh x1
  have fin : JY (n + 200) h := j.y (show m ≤ n + 200 by omega)
  have hs : hasI (h.1 2 0 6) x2 ↔ hasI (h.1 30 0 0) x2 := by rw [j.st6, j.m0]
  refine ⟨fun a => ⟨fun z => ⟨fun b => ?_, fun b => ?_⟩, fun z => ?_⟩, fun a => ?_⟩
  · obtain ⟨dd, k, f, hd, hk, hf, rfl, e1, e2, e39, e40⟩ := kr_0 j.sh z
    obtain ⟨p, hp, rfl⟩ := zin12 a
    have vd : vp_in (nI dd) 8 := vpn hd (by decide)
    rw [nI_cl (show dd ≤ 4096 by omega), e1, e2, nI_cl (show k ≤ 4096 by omega)]
    refine ⟨vd, vpn hk (by decide), ?_⟩
    have nb : ¬ S.testBit p = true := fun q => b (by rw [j.st6]; exact (hasI_iff j.lt (by omega)).mpr q)
    refine zC_mono (sX4_lay (d + 1) j.c (show m + 1 < 2 ^ 30 by omega) hp hk) ?_
    rintro r h1 ⟨c', ec, rfl, rc, r10, r11, fM⟩
    refine ⟨_, rfl, _, rfl, ?_⟩
    have m1 : RM0 h1 S e := j.m.fr (funext fun x => (fM 30 0 x (by unfold eM; simp)).1)
    have o1 : ∀ k jj, 38 ≤ k → h1.1 k 0 jj = h.1 k 0 jj := fun k jj hk => (fM k 0 jj (by unfold eM; simp; omega)).1
    have z1 : wKeptI h1 (nI dd) = 0 := by
      rw [← z, K]
      unfold wKeptI
      rw [o1 38 _ (by decide)]
    refine zC_of (by decide +kernel) (Nat.le_of_ble_eq_true rfl) (L := [zr 5 0, zi (nI dd), zi (nI p), zu, zu]) ⟨rfl, ⟨rfl, ⟨rfl, trivial⟩⟩⟩ ?_
    refine wX12_lays_0 ⟨fun _ => ⟨fun _ => ⟨fun _ => ?_, fun b2 => ?_⟩, fun z2 => absurd z1 z2⟩, fun a2 => absurd a a2⟩
    · refine ⟨vd, vd, ?_⟩
      rw [nI_cl (show dd ≤ 4096 by omega), o1 39 _ (by decide), o1 40 _ (by decide), e39, e40]
      refine zC_mono (sX12_laysAt d m1 hp) ?_
      rintro r h2 ⟨rfl, rm, ⟨k2, g2⟩, a2, fm⟩
      refine ⟨rfl, ?_⟩
      obtain ⟨st, j2⟩ := j.lay hp hk hf ec rc r10 r11 fM rm k2 g2 a2 (fm.mono fun _ _ _ => eMs_M)
      have hT : S ||| 2 ^ p < 4096 := zor_lt j.lt (zp_lt hp)
      refine ⟨?_, j2.y (show m + 1 ≤ n + 200 by omega)⟩
      rw [m1.2.2.1, rm.2.2.1, bitsI_nI j.lt, bitsI_nI rm.1, st, zor_pc j.lt hp nb, nI_1, nI_sub]
      have := zpc_mono (stl_le (cfgH h2 (cP e)) hT)
      rw [zor_pc j.lt hp nb] at this
      exact this
    · rw [m1.2.2.1, hasI_iff j.lt (by omega)] at b2
      exact absurd b2 nb
  · refine ⟨_, rfl, zC_of (by decide +kernel) (Nat.le_of_ble_eq_true rfl) (L := [zr 5 0, zi x1, zi x2, zu, zu]) ⟨rfl, ⟨rfl, ⟨rfl, trivial⟩⟩⟩ (wX12_lays_0 ⟨fun _ => ⟨fun _ => ⟨fun b2 => absurd (hs.mp b) b2, fun _ => ⟨rfl, fin⟩⟩, fun z2 => absurd (K.symm.trans z) z2⟩, fun a2 => absurd a a2⟩)⟩
  · refine ⟨_, rfl, zC_of (by decide +kernel) (Nat.le_of_ble_eq_true rfl) (L := [zr 5 0, zi x1, zi x2, zu, zu]) ⟨rfl, ⟨rfl, ⟨rfl, trivial⟩⟩⟩ (wX12_lays_0 ⟨fun _ => ⟨fun z2 => absurd (K.trans z2) z, fun _ => ⟨by rw [K], fin⟩⟩, fun a2 => absurd a a2⟩)⟩
  · refine ⟨_, rfl, zC_of (by decide +kernel) (Nat.le_of_ble_eq_true rfl) (L := [zr 5 0, zi x1, zi x2, zu, zu]) ⟨rfl, ⟨rfl, ⟨rfl, trivial⟩⟩⟩ (wX12_lays_0 ⟨fun a2 => absurd a2 a, fun _ => ⟨rfl, fin⟩⟩)⟩
