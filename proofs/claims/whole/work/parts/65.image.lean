/-! ===== image, both sides ===== -/
def eI (k i j : Nat) : Bool := eB 1 k i j || decide (k = 0 ∧ i = 0 ∧ j = 6)
def eIm (k i j : Nat) : Bool := decide (k = 31 ∧ i = 0) || decide (k = 5 ∧ i = 0 ∧ j = 3)
theorem pX11_image {G : ZG} (d : Nat) {h : ZH} {S : Nat} {c e : ZQ5} {N : ZN} (j : JX h S c e N) : zC G (d + 2) mX11_image [zr 0 0] h (fun r h1 => r = some (zi (nI (zpc S))) ∧ (∀ k, 10 ≤ k → k ≤ 14 → ∀ p, p < 12 → h1.1 k 1 p = h.1 k 0 p) ∧ (∀ jj, 6 ≤ jj → jj ≤ 8 → h1.1 2 1 jj = h.1 2 0 jj) ∧ h1.1 0 0 6 = 1 ∧ zfz eI h h1) := by
  refine zC_of (by decide +kernel) (Nat.le_of_ble_eq_true rfl) (L := [zr 0 0]) ⟨rfl, trivial⟩ ?_
  refine wX11_image_0 ?_
  refine zC_mono (sX4_becomeAs (i0 := 1) (i1 := 0) d (by decide) (by decide) (by decide)) ?_
  rintro r h1 ⟨rfl, q1, q2, q3, f1⟩
  refine ⟨rfl, ?_⟩
  intro h3 e3
  have o : ∀ k i jj, k ≠ 0 → h3.1 k i jj = h1.1 k i jj := fun k i jj hk => by rw [e3, zs1_at, if_neg (fun q => hk q.1)]
  have s6 : h3.1 2 0 6 = nI S := by rw [o 2 0 6 (by decide), (f1 2 0 6 (by decide)).1]; exact j.st6
  refine ⟨?_, fun k k1 k2 p hp => ?_, fun jj j1 j2 => ?_, ?_, ?_⟩
  · rw [s6, bcI_nI j.lt]
  · rw [o k 1 p (by omega)]; exact q1 k k1 k2 p hp
  · rw [o 2 1 jj (by decide)]; exact q2 jj j1 j2
  · rw [e3, zs1_at, if_pos ⟨rfl, rfl, rfl⟩]
  · rw [e3]
    refine (f1.mono fun k i jj q => ?_).tr (zfz.s1 eI h1 _ (by unfold eI; simp))
    unfold eI at q
    simp only [Bool.or_eq_false_iff] at q
    exact q.1
theorem pX12_image {G : ZG} (d : Nat) {h1 : ZH} {S : Nat} {e : ZQ5} (m : RM0 h1 S e) : zC G (d + 2) mX12_image [zr 5 0] h1 (fun r h2 => r = some (zi (nI (zpc S))) ∧ (∀ jj, jj < 26 → h2.1 31 0 jj = h1.1 30 0 jj) ∧ h2.1 5 0 3 = 1 ∧ zfz eIm h1 h2) := by
  refine zC_of (by decide +kernel) (Nat.le_of_ble_eq_true rfl) (L := [zr 5 0]) ⟨rfl, trivial⟩ ?_
  refine wX12_image_0 ?_
  refine zC_mono (sX12_copies d rfl rfl (by decide) (by decide) (by decide)) ?_
  rintro r h2 ⟨rfl, e2⟩
  refine ⟨rfl, ?_⟩
  intro h3 e3
  have o : ∀ k i jj, k ≠ 5 → h3.1 k i jj = h2.1 k i jj := fun k i jj hk => by rw [e3, zs1_at, if_neg (fun q => hk q.1)]
  refine ⟨?_, fun jj hj => ?_, ?_, ?_⟩
  · rw [o 30 0 0 (by decide), e2, zsR_at, if_neg (by simp), m.2.2.1, bitsI_nI m.1]
  · rw [o 31 0 jj (by decide), e2, zsR_at, if_pos ⟨rfl, rfl⟩, if_pos hj]
  · rw [e3, zs1_at, if_pos ⟨rfl, rfl, rfl⟩]
  · rw [e3, e2]
    exact (zfz.R eIm h1 _ (fun _ => by unfold eIm; simp)).tr (zfz.s1 eIm _ _ (by unfold eIm; simp))
