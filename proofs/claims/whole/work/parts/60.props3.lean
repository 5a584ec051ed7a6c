/-! ===== props, both sides ===== -/
def propP (e : ZQ5) (x : Int32) : Nat := if 0 ≤ x ∧ x ≤ 11 then cP e ^^^ 2 ^ x.toNatClampNeg else cP e
def propS (e : ZQ5) (S : Nat) (x : Int32) : Nat := if 0 ≤ x ∧ x ≤ 11 then stl (cWith e (propP e x)) S else S
def propV (e : ZQ5) (S : Nat) (x : Int32) : Int32 := if 0 ≤ x ∧ x ≤ 11 then nI (zpc S - zpc (propS e S x)) else -1
theorem pX11_props {G : ZG} (d : Nat) {h : ZH} {S : Nat} {c e : ZQ5} {N : ZN} (j : JX h S c e N) (hN : N.1 + 1 < 2 ^ 30) (x : Int32) : zC G (d + 6) mX11_props [zr 0 0, zi x] h (fun r h1 => r = some (zi (propV e S x)) ∧ (∃ n, n ≤ N.1 + 1 ∧ RC0 h1 (propS e S x) (cWith c (propP e x)) n) ∧ zfz eP h h1) := by
  refine zC_of (by decide +kernel) (Nat.le_of_ble_eq_true rfl) (L := [zr 0 0, zi x]) ⟨rfl, ⟨rfl, trivial⟩⟩ ?_
  refine wX11_props_0 ?_
  have hPe : cP c = cP e := j.eq.1
  refine ⟨fun a => ⟨by unfold propV; rw [if_neg a], ⟨N.1, by omega, ?_⟩, zfz.rf _ _⟩, fun a => ?_⟩
  · have : cWith c (propP e x) = c := by
      unfold propP
      rw [if_neg a, ← hPe]
      rfl
    rw [this]
    unfold propS
    rw [if_neg a]
    exact j.c
  · obtain ⟨p, hp, rfl⟩ := zin12 a
    have eP' : propP e (nI p) = cP e ^^^ 2 ^ p := by unfold propP; rw [if_pos a, nI_cl (show p ≤ 4096 by omega)]
    refine zC_mono (sX4_turnProp d j.c hN hp) ?_
    rintro r h1 ⟨c', ec, rfl, r1, f1⟩
    have e1 : c' = cWith c (propP e (nI p)) := by rw [ec, eP', hPe]; rfl
    have st : stl c' S = propS e S (nI p) := by
      unfold propS
      rw [if_pos a, e1]
      exact stl_eq j.lt (cWith_eq j.eq _)
    rw [st] at r1 ⊢
    rw [e1] at r1
    exact ⟨_, rfl, by unfold propV; rw [if_pos a], ⟨N.1 + 1, Nat.le_refl _, r1⟩, f1⟩
theorem pX12_props {G : ZG} (d : Nat) {h1 : ZH} {S : Nat} {e : ZQ5} (m : RM0 h1 S e) (x : Int32) : zC G (d + 6) mX12_props [zr 5 0, zi x] h1 (fun r h2 => r = some (zi (propV e S x)) ∧ (∃ e', RM0 h2 (propS e S x) e' ∧ cEq e' (cWith e (propP e x)) S) ∧ zfz eMh h1 h2 ∧ ∀ j, 2 ≤ j → h2.1 30 0 j = h1.1 30 0 j) := by
  refine zC_of (by decide +kernel) (Nat.le_of_ble_eq_true rfl) (L := [zr 5 0, zi x, zu]) ⟨rfl, ⟨rfl, trivial⟩⟩ ?_
  refine wX12_props_0 ?_
  have m0 := m.2.2.1
  have hS := m.1
  have hP := m.2.1
  refine ⟨fun a => ?_, fun a => ⟨by unfold propV; rw [if_neg a], ⟨e, ?_, ?_⟩, zfz.rf _ _, fun _ _ => rfl⟩⟩
  · obtain ⟨p, hp, rfl⟩ := zin12 a
    have eP' : propP e (nI p) = cP e ^^^ 2 ^ p := by unfold propP; rw [if_pos a, nI_cl (show p ≤ 4096 by omega)]
    rw [m.2.2.2.1, zi_sh hp, fb_xorI]
    intro h2 e2
    have P4 : cP e ^^^ 2 ^ p < 4096 := zxor_lt hP (zp_lt hp)
    have a2 : ∀ j, 2 ≤ j → h2.1 30 0 j = h1.1 30 0 j := fun jj hj => by
      rw [e2, zs1_at, if_neg (by omega)]
    have z2 : h2.1 30 0 0 = nI S := by rw [e2, zs1_at, if_neg (by simp)]; exact m0
    have q2 := m.put hS P4 z2 (by rw [e2, zs1_at, if_pos ⟨rfl, rfl, rfl⟩]) a2
    rw [z2]
    refine zC_mono (kX0_settled d q2.1 hS) ?_
    rintro r h3 ⟨rfl, _, m3, f3⟩
    refine ⟨_, rfl, ?_⟩
    intro h5 e5
    have st : stl (cfgH h2 (cP e ^^^ 2 ^ p)) S = propS e S (nI p) := by
      unfold propS
      rw [if_pos a, eP']
      exact stl_eq hS (q2.2 S)
    rw [st] at e5
    have lt : propS e S (nI p) < 4096 := by rw [← st]; exact stl_lt _ hS
    have hle : zle (propS e S (nI p)) S := by rw [← st]; exact stl_le _ hS
    have a5 : ∀ j, 2 ≤ j → h5.1 30 0 j = h1.1 30 0 j := fun jj hj => by
      rw [e5, zs1_at, if_neg (by omega), (f3 30 0 jj (eS_no (by decide) (by decide))).1]
      exact a2 jj hj
    have z5 : h5.1 30 0 0 = nI (propS e S (nI p)) := by rw [e5, zs1_at, if_pos ⟨rfl, rfl, rfl⟩]
    have p5 : h5.1 30 0 1 = nI (cP e ^^^ 2 ^ p) := by rw [e5, zs1_at, if_neg (by simp)]; exact m3.2.2.2.1
    have q5 := m.put lt P4 z5 p5 a5
    refine ⟨?_, ⟨_, q5.1, by rw [eP']; exact q5.2 S⟩, ?_, a5⟩
    · rw [z5, m0, bitsI_nI hS, bitsI_nI lt, nI_sub (zpc_mono hle)]
      unfold propV
      rw [if_pos a]
    · rw [e5]
      refine (?_ : zfz eMh h1 h2).tr ((zfz.of f3 fun _ _ _ => eS_M).tr (zfz.s1 eMh h3 _ (by unfold eMh; simp)))
      rw [e2]
      exact zfz.s1 eMh h1 _ (by unfold eMh; simp)
  · unfold propS
    rw [if_neg a]
    exact m
  · have : propP e x = cP e := by unfold propP; rw [if_neg a]
    rw [this]
    exact ⟨rfl, fun _ _ _ => ⟨rfl, rfl, rfl, rfl⟩⟩
/-- props: together again -/
theorem JX.props {h h1 h2 : ZH} {S n : Nat} {c e e' : ZQ5} {N : ZN} (j : JX h S c e N) (x : Int32) (ft : zfz eP h h1) (rc : RC0 h1 (propS e S x) (cWith c (propP e x)) n) (fm : zfz eMh h1 h2) (rm : RM0 h2 (propS e S x) e') (q : cEq e' (cWith e (propP e x)) S) (a : ∀ jj, 2 ≤ jj → h2.1 30 0 jj = h1.1 30 0 jj) : JX h2 (propS e S x) (cWith c (propP e x)) e' (n, h2) := by
  have hle : zle (propS e S x) S := by
    unfold propS
    split
    · exact stl_le _ j.lt
    · exact zle_rf S
  have fc : zfz eCh h h1 := ft.mono fun _ _ _ => eP_C
  have k1 : ∀ k, 10 ≤ k → k ≤ 14 → ∀ p, p < 12 → h1.1 k 0 p = h.1 k 0 p := fun k _ _ p _ => (ft k 0 p (by unfold eP; simp; omega)).1
  refine j.again fc fm rc rm ?_ q.1.symm ?_
  · refine (j.1.2.2.2.2.2.2.2.2.1.sub hle).fr (fun k h3 h4 p hp => ?_) (fun jj hj => ?_)
    · rw [← k1 k h3 h4 p hp]
      refine (fm k 0 p (eMh_no ?_ (by omega))).1
      unfold eV
      rw [eS_no (by omega) (by omega)]
      simp
      omega
    · rw [a jj hj]
      exact (fc 30 0 jj (eCh_no (eA_no (by omega)) (by omega) (by omega))).1
  · have hT := zle_lt hle j.lt
    rw [zlz_eq hT (q.sub hle)]
    unfold propS
    split
    · exact stl_fix _ j.lt
    · rename_i z
      have : propP e x = cP e := by unfold propP; rw [if_neg z]
      rw [this]
      exact j.fix
