/-! ===== row, both sides ===== -/
def rowOk (x s n : Int32) : Prop := (0 ≤ x ∧ x ≤ 7) ∧ ((0 ≤ s ∧ s ≤ 2) ∧ n ≤ 100)
theorem n3_le2 {s : Int32} : ¬ 3 ≤ s ↔ s ≤ 2 := by
  rw [fa_le, fa_le]
  have e1 : (3 : Int32).toInt = 3 := by decide
  have e2 : (2 : Int32).toInt = 2 := by decide
  omega
theorem sX8_holdRow {G : ZG} (d : Nat) {h : ZH} {dd : Nat} {s n : Int32} (hd : dd < 8) : zC G (d + 2) mX8_holdRow [zr 3 dd, zi s, zi n] h (fun r h1 => r = none ∧ zfz (eSc dd) h h1 ∧ h1.1 3 dd 0 = 2 ∧ h1.1 3 dd 3 = s ∧ h1.1 3 dd 4 = n ∧ ∀ j, j < 100 → h1.1 16 dd j = 0) := by
  refine zC_of (by decide +kernel) (Nat.le_of_ble_eq_true rfl) (L := [zr 3 dd, zi s, zi n]) ⟨rfl, ⟨rfl, ⟨rfl, trivial⟩⟩⟩ ?_
  refine wX8_holdRow_0 hd ?_
  intro h1 e1 h2 e2 h3 e3
  refine zC_mono (sJ7_fillI (n := 100) d rfl hd) ?_
  rintro r h4 ⟨rfl, e4⟩
  have o : ∀ jj, h4.1 3 dd jj = h3.1 3 dd jj := fun jj => by rw [e4, zsR_at, if_neg (by simp)]
  refine ⟨rfl, rfl, ?_, ?_, ?_, ?_, ?_⟩
  · rw [e4, e3, e2, e1]
    exact (((zfz.s1 _ h _ (by unfold eSc; simp)).tr (zfz.s1 _ _ _ (by unfold eSc; simp))).tr (zfz.s1 _ _ _ (by unfold eSc; simp))).tr (zfz.R _ _ _ (fun _ => by unfold eSc; simp))
  · rw [o, e3, zs1_at, if_neg (by simp), e2, zs1_at, if_neg (by simp), e1, zs1_at, if_pos ⟨rfl, rfl, rfl⟩]
  · rw [o, e3, zs1_at, if_neg (by simp), e2, zs1_at, if_pos ⟨rfl, rfl, rfl⟩]
  · rw [o, e3, zs1_at, if_pos ⟨rfl, rfl, rfl⟩]
  · intro j hj
    rw [e4, zsR_row]
    unfold zfl
    rw [if_pos hj]
theorem pX11_row {G : ZG} (d : Nat) {h : ZH} (x s n : Int32) : zC G (d + 3) mX11_row [zr 0 0, zi x, zi s, zi n] h (fun r h1 => (¬ rowOk x s n ∧ r = some (zi (-1)) ∧ h1 = h) ∨ (rowOk x s n ∧ ¬ 0 ≤ n ∧ r = some (zi (-14)) ∧ h1 = h) ∨ (rowOk x s n ∧ 0 ≤ n ∧ r = some (zi 0) ∧ zfz (eSc x.toNatClampNeg) h h1 ∧ h1.1 3 x.toNatClampNeg 0 = 2 ∧ h1.1 3 x.toNatClampNeg 3 = s ∧ h1.1 3 x.toNatClampNeg 4 = n ∧ ∀ j, j < 100 → h1.1 16 x.toNatClampNeg j = 0)) := by
  refine zC_of (by decide +kernel) (Nat.le_of_ble_eq_true rfl) (L := [zr 0 0, zi x, zi s, zi n]) ⟨rfl, ⟨rfl, ⟨rfl, ⟨rfl, trivial⟩⟩⟩⟩ ?_
  refine wX11_row_0 ?_
  refine ⟨fun a => Or.inl ⟨fun q => a q.1, rfl, rfl⟩, fun a => ⟨fun s0 => Or.inl ⟨fun q => (fa_of_lt s0).2.1 q.2.1.1, rfl, rfl⟩, fun s0 => ⟨fun s3 => Or.inl ⟨fun q => n3_le2.mpr q.2.1.2 s3, rfl, rfl⟩, fun s3 => ⟨fun n1 => ⟨fun n0 => ?_, fun n0 => Or.inr (Or.inl ⟨⟨a, ⟨fa_of_nlt s0, n3_le2.mp s3⟩, n1⟩, n0, rfl, rfl⟩)⟩, fun n1 => Or.inl ⟨fun q => n1 q.2.2, rfl, rfl⟩⟩⟩⟩⟩
  obtain ⟨dd, hd, rfl⟩ := zin8 a
  rw [nI_cl (show dd ≤ 4096 by omega)]
  refine ⟨vpn hd (by decide), ?_⟩
  refine zC_mono (sX8_holdRow d hd) ?_
  rintro r h1 ⟨rfl, q⟩
  exact ⟨rfl, Or.inr (Or.inr ⟨⟨a, ⟨fa_of_nlt s0, n3_le2.mp s3⟩, n1⟩, n0, rfl, q⟩)⟩
theorem pX12_row {G : ZG} (d : Nat) {h1 : ZH} (x s n : Int32) : zC G (d + 3) mX12_row [zr 5 0, zi x, zi s, zi n] h1 (fun r h2 => (¬ rowOk x s n ∧ r = some (zi (-1)) ∧ h2 = h1) ∨ (rowOk x s n ∧ ¬ 0 ≤ n ∧ r = some (zi (-14)) ∧ h2 = h1) ∨ (rowOk x s n ∧ 0 ≤ n ∧ r = some (zi 0) ∧ zfz (eSm x.toNatClampNeg) h1 h2 ∧ h2.1 38 0 x.toNatClampNeg = 2 ∧ h2.1 41 0 x.toNatClampNeg = s ∧ h2.1 42 0 x.toNatClampNeg = n ∧ ∀ j, j < 100 → h2.1 43 0 (100 * x.toNatClampNeg + j) = 0)) := by
  refine zC_of (by decide +kernel) (Nat.le_of_ble_eq_true rfl) (L := [zr 5 0, zi x, zi s, zi n, zu]) ⟨rfl, ⟨rfl, ⟨rfl, ⟨rfl, trivial⟩⟩⟩⟩ ?_
  refine wX12_row_0 ?_
  refine ⟨fun a => Or.inl ⟨fun q => a q.1, rfl, rfl⟩, fun a => ⟨fun b => Or.inl ⟨fun q => b q.2.1, rfl, rfl⟩, fun b => ⟨fun n1 => ⟨fun n0 => ?_, fun n0 => Or.inr (Or.inl ⟨⟨a, b, n1⟩, n0, rfl, rfl⟩)⟩, fun n1 => Or.inl ⟨fun q => n1 q.2.2, rfl, rfl⟩⟩⟩⟩
  obtain ⟨dd, hd, rfl⟩ := zin8 a
  have v : vp_in (nI dd) 8 := vpn hd (by decide)
  rw [nI_cl (show dd ≤ 4096 by omega)]
  refine ⟨v, ?_⟩
  intro h2 e2
  refine ⟨v, ?_⟩
  intro h3 e3
  refine ⟨v, ?_⟩
  intro h4 e4
  have f4 : zfz (eSm dd) h1 h4 := by
    rw [e4, e3, e2]
    exact ((zfz.s1 _ h1 _ (by unfold eSm; simp)).tr (zfz.s1 _ _ _ (by unfold eSm; simp))).tr (zfz.s1 _ _ _ (by unfold eSm; simp))
  have k38 : h4.1 38 0 dd = 2 := by rw [e4, zs1_at, if_neg (by simp), e3, zs1_at, if_neg (by simp), e2, zs1_at, if_pos ⟨rfl, rfl, rfl⟩]
  have k41 : h4.1 41 0 dd = s := by rw [e4, zs1_at, if_neg (by simp), e3, zs1_at, if_pos ⟨rfl, rfl, rfl⟩]
  have k42 : h4.1 42 0 dd = n := by rw [e4, zs1_at, if_pos ⟨rfl, rfl, rfl⟩]
  have key : ∀ (f m : Nat) (h5 : ZH), f + m = 100 → zfz (eSm dd) h1 h5 → h5.1 38 0 dd = 2 → h5.1 41 0 dd = s → h5.1 42 0 dd = n → (∀ j, j < m → h5.1 43 0 (100 * dd + j) = 0) → zT G (d + 3) mX12_row 55 [zr 5 0, zi (nI dd), zi s, zi n, zi (nI m)] [] h5 (fun r h2 => (¬ rowOk (nI dd) s n ∧ r = some (zi (-1)) ∧ h2 = h1) ∨ (rowOk (nI dd) s n ∧ ¬ 0 ≤ n ∧ r = some (zi (-14)) ∧ h2 = h1) ∨ (rowOk (nI dd) s n ∧ 0 ≤ n ∧ r = some (zi 0) ∧ zfz (eSm dd) h1 h2 ∧ h2.1 38 0 dd = 2 ∧ h2.1 41 0 dd = s ∧ h2.1 42 0 dd = n ∧ ∀ j, j < 100 → h2.1 43 0 (100 * dd + j) = 0)) := by
    intro f
    induction f with
    | zero =>
      intro m h5 hm f5 a1 a2 a3 z
      have em : m = 100 := by omega
      subst em
      refine wX12_row_55 ?_
      exact br_t (by decide) (Or.inr (Or.inr ⟨⟨a, b, n1⟩, n0, rfl, f5, a1, a2, a3, z⟩))
    | succ f ih =>
      intro m h5 hm f5 a1 a2 a3 z
      have ix := ix_el hd (show m < 100 by omega)
      refine wX12_row_55 ?_
      refine br_f (nI_ge (a := m) (b := 100) (by omega) (by decide)) ?_
      rw [ix.1, ix.2.2, nI_1]
      refine ⟨ix.2.1, ?_⟩
      intro h6 e6
      have o : ∀ kk jj, kk ≠ 43 → h6.1 kk 0 jj = h5.1 kk 0 jj := fun kk jj hk => by rw [e6, zs1_at, if_neg (fun q => hk q.1)]
      refine ih (m + 1) h6 (by omega) (f5.tr (by rw [e6]; exact zfz.s1 _ _ _ (by unfold eSm; simp; omega))) (by rw [o _ _ (by decide)]; exact a1) (by rw [o _ _ (by decide)]; exact a2) (by rw [o _ _ (by decide)]; exact a3) (fun jj hj => ?_)
      rw [e6, zs1_at]
      by_cases y : jj = m
      · subst y; rw [if_pos ⟨rfl, rfl, rfl⟩]
      · rw [if_neg (fun q => y (by omega))]; exact z jj (by omega)
  exact key 100 0 h4 (by omega) f4 k38 k41 k42 (fun jj hj => absurd hj (Nat.not_lt_zero jj))
