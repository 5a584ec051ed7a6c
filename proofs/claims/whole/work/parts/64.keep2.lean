/-! ===== keep and row: together again ===== -/
theorem JX.keep {h h1 h2 : ZH} {S : Nat} {c e : ZQ5} {N : ZN} (j : JX h S c e N) {x w k f : Int32} (ok : keepOk x w k f) (fc : zfz (eSc x.toNatClampNeg) h h1) (c4 : h1.1 3 x.toNatClampNeg 4 = 0) (c0 : w = 0 → h1.1 3 x.toNatClampNeg 0 = 0) (c1 : ¬ w = 0 → h1.1 3 x.toNatClampNeg 0 = 1 ∧ h1.1 3 x.toNatClampNeg 1 = k ∧ h1.1 3 x.toNatClampNeg 2 = f) (fm : zfz (eSm x.toNatClampNeg) h1 h2) (m38 : h2.1 38 0 x.toNatClampNeg = w) (m39 : h2.1 39 0 x.toNatClampNeg = k) (m40 : h2.1 40 0 x.toNatClampNeg = f) : JX h2 S c e (N.1, h2) := by
  refine j.shelf fc fm ?_
  have o : ∀ jj, h2.1 3 x.toNatClampNeg jj = h1.1 3 x.toNatClampNeg jj := fun jj => (fm 3 _ jj (by unfold eSm; simp)).1
  refine ⟨0, by decide, by rw [o]; exact c4, ?_⟩
  by_cases w0 : w = 0
  · exact Or.inl ⟨by rw [o]; exact c0 w0, by rw [m38]; exact w0⟩
  · obtain ⟨q0, q1, q2⟩ := c1 w0
    have w1 : w = 1 := (n01 ok.2.1).resolve_left w0
    obtain ⟨kb, fb⟩ := ok.2.2.resolve_left w0
    obtain ⟨kn, hk, ek⟩ := zin8 kb
    obtain ⟨fn, hf, ef⟩ := nI_of2 (x := f) (M := 9) (n := 9) (by decide) (by
      intro q
      exact (fa_of_lt q).2.1 fb.1) fb.2
    exact Or.inr (Or.inl ⟨by rw [o]; exact q0, by rw [m38]; exact w1, kn, fn, hk, by omega, by rw [o, q1]; exact ek, by rw [o, q2]; exact ef, by rw [m39]; exact ek, by rw [m40]; exact ef⟩)
theorem JX.row {h h1 h2 : ZH} {S : Nat} {c e : ZQ5} {N : ZN} (j : JX h S c e N) {x s n : Int32} (ok : rowOk x s n) (n0 : 0 ≤ n) (fc : zfz (eSc x.toNatClampNeg) h h1) (c0 : h1.1 3 x.toNatClampNeg 0 = 2) (c3 : h1.1 3 x.toNatClampNeg 3 = s) (c4 : h1.1 3 x.toNatClampNeg 4 = n) (ce : ∀ j, j < 100 → h1.1 16 x.toNatClampNeg j = 0) (fm : zfz (eSm x.toNatClampNeg) h1 h2) (m38 : h2.1 38 0 x.toNatClampNeg = 2) (m41 : h2.1 41 0 x.toNatClampNeg = s) (m42 : h2.1 42 0 x.toNatClampNeg = n) (me : ∀ j, j < 100 → h2.1 43 0 (100 * x.toNatClampNeg + j) = 0) : JX h2 S c e (N.1, h2) := by
  refine j.shelf fc fm ?_
  have o : ∀ jj, h2.1 3 x.toNatClampNeg jj = h1.1 3 x.toNatClampNeg jj := fun jj => (fm 3 _ jj (by unfold eSm; simp)).1
  have o16 : ∀ jj, h2.1 16 x.toNatClampNeg jj = h1.1 16 x.toNatClampNeg jj := fun jj => (fm 16 _ jj (by unfold eSm; simp)).1
  obtain ⟨nn, hn, en⟩ := nI_of2 (x := n) (M := 100) (n := 100) (by decide) (fun q => (fa_of_lt q).2.1 n0) ok.2.2
  obtain ⟨sn, hs, es⟩ := nI_of2 (x := s) (M := 2) (n := 2) (by decide) (fun q => (fa_of_lt q).2.1 ok.2.1.1) ok.2.1.2
  refine ⟨nn, hn, by rw [o, c4]; exact en, Or.inr (Or.inr ⟨by rw [o]; exact c0, m38, sn, by omega, by rw [o, c3]; exact es, by rw [m41]; exact es, by rw [m42]; exact en, fun jj hj => ?_⟩)⟩
  rw [o16, ce jj hj, me jj hj]
  exact ⟨rfl, fun _ => by decide⟩
