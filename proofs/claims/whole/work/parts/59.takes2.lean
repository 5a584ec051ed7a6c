/-! ===== takes, both sides ===== -/
theorem eT_C {k i j : Nat} (h : eCh k i j = false) : eT k i j = false := by
  unfold eCh eA at h
  unfold eT
  simp only [Bool.or_eq_false_iff, decide_eq_false_iff_not] at h ⊢
  omega
theorem eP_C {k i j : Nat} (h : eCh k i j = false) : eP k i j = false := by
  unfold eCh eA at h
  unfold eP
  simp only [Bool.or_eq_false_iff, decide_eq_false_iff_not] at h ⊢
  omega
theorem eM_C {k i j : Nat} (h : eCh k i j = false) : eM k i j = false := by
  unfold eCh eA at h
  unfold eM
  simp only [Bool.or_eq_false_iff, decide_eq_false_iff_not] at h ⊢
  omega
theorem eS_M {k i j : Nat} (h : eMh k i j = false) : eS k j = false := by
  unfold eMh eV at h
  simp only [Bool.or_eq_false_iff] at h
  exact h.1.1
def takeS (e : ZQ5) (S : Nat) (x : Int32) : Nat := if stN S x = 0 then stl e (zsd S (2 ^ x.toNatClampNeg)) else S
def takeV (e : ZQ5) (S : Nat) (x : Int32) : Int32 := if stN S x = 0 then nI (fallN e S (2 ^ x.toNatClampNeg)) else stN S x
theorem pX11_takes {G : ZG} (d : Nat) {h : ZH} {S : Nat} {c e : ZQ5} {N : ZN} (j : JX h S c e N) (x : Int32) : zC G (d + 6) mX11_takes [zr 0 0, zi x] h (fun r h1 => r = some (zi (takeV e S x)) ∧ RC0 h1 (takeS e S x) c N.1 ∧ zfz eT h h1) := by
  refine zC_of (by decide +kernel) (Nat.le_of_ble_eq_true rfl) (L := [zr 0 0, zi x, zu]) ⟨rfl, ⟨rfl, trivial⟩⟩ ?_
  refine wX11_takes_0 ?_
  rw [j.stR]
  unfold takeV takeS
  refine ⟨fun s => ?_, fun s => ⟨by rw [if_neg s], by rw [if_neg s]; exact j.c, zfz.rf _ _⟩⟩
  obtain ⟨p, hp, rfl, hb⟩ := stN_0 j.lt s
  rw [if_pos s, if_pos s, nI_cl (show p ≤ 4096 by omega)]
  refine zC_mono (sX4_takeOut d j.c hp) ?_
  rintro r h1 ⟨rfl, r1, f1⟩
  rw [j.stlE (zsd_le j.lt)] at r1
  refine ⟨_, rfl, ?_, r1, f1⟩
  rw [j.stlE (zsd_le j.lt)]
  rfl
theorem stW_of {h : ZH} {S : Nat} (m0 : h.1 30 0 0 = nI S) (x : Int32) : wStoneI h x = stN S x := by unfold wStoneI stN; rw [m0]
/-- the model's hall has another set, the same kinds and figures -/
theorem RM0.put {h h2 : ZH} {S S' P' : Nat} {e : ZQ5} (r : RM0 h S e) (hS : S' < 4096) (hP : P' < 4096) (e0 : h2.1 30 0 0 = nI S') (e1 : h2.1 30 0 1 = nI P') (a : ∀ j, 2 ≤ j → h2.1 30 0 j = h.1 30 0 j) : RM0 h2 S' (cfgH h2 P') ∧ ∀ T, cEq (cfgH h2 P') (cWith e P') T := ⟨⟨hS, hP, e0, e1, rfl⟩, fun T => cWith_cfg r.2.2.2.2 a⟩
theorem cWith_self (e : ZQ5) : cWith e (cP e) = e := rfl
theorem pX12_takes {G : ZG} (d : Nat) {h1 : ZH} {S : Nat} {e : ZQ5} (m : RM0 h1 S e) (x : Int32) : zC G (d + 7) mX12_takes [zr 5 0, zi x] h1 (fun r h2 => r = some (zi (takeV e S x)) ∧ (∃ e', RM0 h2 (takeS e S x) e' ∧ cEq e' e (takeS e S x)) ∧ zfz eMh h1 h2 ∧ ∀ j, 2 ≤ j → h2.1 30 0 j = h1.1 30 0 j) := by
  refine zC_of (by decide +kernel) (Nat.le_of_ble_eq_true rfl) (L := [zr 5 0, zi x, zu, zu]) ⟨rfl, ⟨rfl, trivial⟩⟩ ?_
  refine wX12_takes_0 ?_
  have m0 := m.2.2.1
  have hS := m.1
  rw [stW_of m0, m0, bitsI_nI hS]
  unfold takeV takeS
  refine ⟨fun s => ?_, fun s => ⟨by rw [if_neg s], ⟨e, by rw [if_neg s]; exact m, ⟨rfl, fun _ _ _ => ⟨rfl, rfl, rfl, rfl⟩⟩⟩, zfz.rf _ _, fun _ _ => rfl⟩⟩
  obtain ⟨p, hp, rfl, hb⟩ := stN_0 hS s
  rw [if_pos s, if_pos s, nI_cl (show p ≤ 4096 by omega), zi_sh hp]
  refine zC_mono (kX0_leftWithout d m hS) ?_
  rintro r h2 ⟨rfl, _, m2, f2⟩
  refine ⟨_, rfl, ?_⟩
  intro h4 e4
  have lt := stl_lt e (zsd_lt (T := 2 ^ p) hS)
  have a4 : ∀ j, 2 ≤ j → h4.1 30 0 j = h1.1 30 0 j := fun jj hj => by
    rw [e4, zs1_at, if_neg (by omega)]
    exact (f2 30 0 jj (eS_no (by decide) (by decide))).1
  have z4 : h4.1 30 0 0 = nI (stl e (zsd S (2 ^ p))) := by rw [e4, zs1_at, if_pos ⟨rfl, rfl, rfl⟩]
  have p4 : h4.1 30 0 1 = nI (cP e) := by rw [e4, zs1_at, if_neg (by simp)]; exact m2.2.2.2.1
  have q := m.put lt m.2.1 z4 p4 a4
  refine ⟨?_, ⟨_, q.1, q.2 _⟩, ?_, a4⟩
  · rw [z4, bitsI_nI lt]
    have pc := zsd_pc hS hb
    have ml := zpc_mono (stl_le e (zsd_lt (T := 2 ^ p) hS))
    unfold fallN
    rw [show (1 : Int32) = nI 1 from by decide, nI_sub (by omega), nI_sub (by omega)]
    congr 3
    omega
  · rw [e4]
    exact (zfz.of f2 fun _ _ _ => eS_M).tr (zfz.s1 eMh h2 _ (by unfold eMh; simp))
/-- takes: together again -/
theorem JX.takes {h h1 h2 : ZH} {S : Nat} {c e e' : ZQ5} {N : ZN} (j : JX h S c e N) (x : Int32) (ft : zfz eT h h1) (rc : RC0 h1 (takeS e S x) c N.1) (fm : zfz eMh h1 h2) (rm : RM0 h2 (takeS e S x) e') (q : cEq e' e (takeS e S x)) (a : ∀ jj, 2 ≤ jj → h2.1 30 0 jj = h1.1 30 0 jj) : JX h2 (takeS e S x) c e' (N.1, h2) := by
  have hle : zle (takeS e S x) S := by
    unfold takeS
    split
    · exact stl_sub j.lt (zle_rf S)
    · exact zle_rf S
  have fc : zfz eCh h h1 := ft.mono fun _ _ _ => eT_C
  have k1 : ∀ k, 10 ≤ k → k ≤ 14 → ∀ p, p < 12 → h1.1 k 0 p = h.1 k 0 p := fun k _ _ p _ => (ft k 0 p (by unfold eT; simp; omega)).1
  refine j.again fc fm rc rm ?_ (j.eq.1.trans q.1.symm) ?_
  · refine (j.1.2.2.2.2.2.2.2.2.1.sub hle).fr (fun k h3 h4 p hp => ?_) (fun jj hj => ?_)
    · rw [← k1 k h3 h4 p hp]
      refine (fm k 0 p (eMh_no ?_ (by omega))).1
      unfold eV
      rw [eS_no (by omega) (by omega)]
      simp
      omega
    · rw [a jj hj]
      exact (fc 30 0 jj (eCh_no (eA_no (by omega)) (by omega) (by omega))).1
  · have hT := zle_lt hle j.lt
    rw [zlz_eq hT q]
    unfold takeS
    split
    · exact stl_fix e (zsd_lt j.lt)
    · exact j.fix
