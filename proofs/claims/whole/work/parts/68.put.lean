/-! ===== put, both sides ===== -/
theorem ix_rng {x : Int32} {n : Nat} (hn : n ≤ 100) : ((0 ≤ x ∧ x < nI n) ↔ ∃ i : Nat, i < n ∧ x = nI i) ∧ (((0 : Int32) ≤ x ∧ x ≤ nI n - 1) ↔ (0 ≤ x ∧ x < nI n)) := by
  have e1 : (nI n).toInt = n := nI_toInt (by omega)
  have o1 : (1 : Int32).toInt = 1 := by decide
  have e2 : (nI n - 1).toInt = n - 1 := by
    rw [fb_subI (by rw [e1, o1]; omega) (by rw [e1, o1]; omega), e1, o1]
  refine ⟨⟨fun q => ?_, ?_⟩, ?_⟩
  · rcases pk_ix x (n := n) (by omega) with z | z | z
    · exact absurd q.1 (fa_of_lt z).2.1
    · exact absurd z (fa_of_lt q.2).2.1
    · exact z
  · rintro ⟨i, hi, rfl⟩
    exact ⟨nI_pos' (by omega), nI_lt hi (by omega)⟩
  · refine and_congr_right fun _ => ?_
    rw [fa_le x, fa_lt x, e1, e2]
    omega
def putV (t : Nat) (x : Int32) : Int32 := if t = 0 then x.toInt8.toInt32 else if t = 1 then x.toInt16.toInt32 else x
theorem nt0 {t : Nat} (ht : t < 3) : (nI t = 0 ↔ t = 0) ∧ (nI t = 1 ↔ t = 1) := by
  have : ∀ t, t < 3 → ((nI t = 0 ↔ t = 0) ∧ (nI t = 1 ↔ t = 1)) := by decide
  exact this t ht
theorem sX8_write {G : ZG} (d : Nat) {h : ZH} {dd i t : Nat} {x : Int32} (hd : dd < 8) (hi : i < 100) (ht : t < 3) (et : h.1 3 dd 3 = nI t) : zC G (d + 1) mX8_write [zr 3 dd, zi (nI i), zi x] h (fun r h1 => r = none ∧ h1 = zs1 h 16 dd i (putV t x)) := by
  refine zC_of (by decide +kernel) (Nat.le_of_ble_eq_true rfl) (L := [zr 3 dd, zi (nI i), zi x]) ⟨rfl, ⟨rfl, ⟨rfl, trivial⟩⟩⟩ ?_
  refine wX8_write_0 hd ?_
  rw [et, (nt0 ht).1, (nt0 ht).2, nI_cl (show i ≤ 4096 by omega)]
  have v : vp_in (nI i) 100 := vpn hi (by decide)
  unfold putV
  refine ⟨fun t0 => ⟨fun t1 => ⟨v, fun h1 e1 => ⟨rfl, by rw [if_neg t0, if_neg t1]; exact e1⟩⟩, fun t1 => ⟨v, fun h1 e1 => ⟨rfl, by rw [if_neg t0, if_pos t1]; exact e1⟩⟩⟩, fun t0 => ⟨v, fun h1 e1 => ⟨rfl, by rw [if_pos t0]; exact e1⟩⟩⟩
theorem two_put {G : ZG} (d n : Nat) {h : ZH} (jy : JY n h) (x1 x2 x3 : Int32) : zTwo G (d + 4) mX11_put mX12_put [zi x1, zi x2, zi x3] n h := by
  obtain ⟨S, c, e, m, hm, j⟩ := jy
  refine zC_of (by decide +kernel) (Nat.le_of_ble_eq_true rfl) (L := [zr 0 0, zi x1, zi x2, zi x3, zu]) ⟨rfl, ⟨rfl, ⟨rfl, ⟨rfl, trivial⟩⟩⟩⟩ ?_
  refine wX11_put_0 (d := d + 1) ?_
  have K : rowRefI h x1 = wRowI h x1 (-1) := rr_eq j.sh x1
  have fin : JY (n + 200) h := j.y (show m ≤ n + 200 by omega)
  refine ⟨fun z => ?_, fun z => ⟨_, rfl, zC_of (by decide +kernel) (Nat.le_of_ble_eq_true rfl) (L := [zr 5 0, zi x1, zi x2, zi x3, zu]) ⟨rfl, ⟨rfl, ⟨rfl, ⟨rfl, trivial⟩⟩⟩⟩ (wX12_put_0 ⟨fun z2 => absurd (K.trans z2) z, fun _ => ⟨by rw [K], fin⟩⟩)⟩⟩
  have z12 : wRowI h x1 (-1) = 0 := K.symm.trans z
  obtain ⟨dd, n0, t, hd, hn0, ht, rfl, e4, e42, e0, e38, e3, e41, el⟩ := rr_0 j.sh z
  have vd : vp_in (nI dd) 8 := vpn hd (by decide)
  have cd : (nI dd).toNatClampNeg = dd := nI_cl (by omega)
  rw [cd, e4]
  refine ⟨vd, fun a => ⟨vd, ?_⟩, fun a => ⟨_, rfl, ?_⟩⟩
  · obtain ⟨i, hi, rfl⟩ := (ix_rng hn0).1.mp a
    refine zC_mono (sX8_write (d + 2) hd (show i < 100 by omega) ht e3) ?_
    rintro r h1 ⟨rfl, e1⟩
    refine ⟨rfl, _, rfl, ?_⟩
    have o1 : ∀ k jj, k ≠ 16 → h1.1 k 0 jj = h.1 k 0 jj := fun k jj hk => by rw [e1, zs1_at, if_neg (fun q => hk q.1)]
    have z1 : wRowI h1 (nI dd) (-1) = 0 := by
      rw [← z12]
      unfold wRowI
      rw [o1 38 _ (by decide), o1 41 _ (by decide)]
    have ix := ix_el hd (show i < 100 by omega)
    -- behind both
    have last : ∀ h2 : ZH, h2 = zs1 h1 43 0 (100 * dd + i) (putV t x3) → JY (n + 200) h2 := by
      intro h2 e2
      have fc : zfz (eSc dd) h h1 := by rw [e1]; exact zfz.s1 _ h _ (by unfold eSc; simp)
      have fm : zfz (eSm dd) h1 h2 := by rw [e2]; exact zfz.s1 _ h1 _ (by unfold eSm; simp; omega)
      refine (j.shelf fc fm ?_).y (show m ≤ n + 200 by omega)
      have low : ∀ k ii jj, k ≠ 16 → k ≠ 43 → h2.1 k ii jj = h.1 k ii jj := fun k ii jj a b => by rw [e2, zs1_at, if_neg (fun q => b q.1), e1, zs1_at, if_neg (fun q => a q.1)]
      refine ⟨n0, hn0, by rw [low 3 dd 4 (by decide) (by decide)]; exact e4, Or.inr (Or.inr ⟨by rw [low 3 dd 0 (by decide) (by decide)]; exact e0, by rw [low 38 0 dd (by decide) (by decide)]; exact e38, t, ht, by rw [low 3 dd 3 (by decide) (by decide)]; exact e3, by rw [low 41 0 dd (by decide) (by decide)]; exact e41, by rw [low 42 0 dd (by decide) (by decide)]; exact e42, fun jj hj => ?_⟩)⟩
      have a16 : h2.1 16 dd jj = if jj = i then putV t x3 else h.1 16 dd jj := by
        rw [e2, zs1_at, if_neg (by simp), e1, zs1_at]
        by_cases q : jj = i <;> simp [q]
      have a43 : h2.1 43 0 (100 * dd + jj) = if jj = i then putV t x3 else h.1 43 0 (100 * dd + jj) := by
        rw [e2, zs1_at]
        by_cases q : jj = i
        · rw [if_pos ⟨rfl, rfl, by omega⟩, if_pos q]
        · rw [if_neg (fun z => q (by omega)), if_neg q, e1, zs1_at, if_neg (by simp)]
      rw [a16, a43]
      by_cases q : jj = i
      · rw [if_pos q, if_pos q]
        refine ⟨rfl, fun t0 => ?_⟩
        unfold putV
        rw [if_pos t0]
        exact (fb_byte_twice x3).symm
      · rw [if_neg q, if_neg q]
        exact el jj hj
    refine zC_of (by decide +kernel) (Nat.le_of_ble_eq_true rfl) (L := [zr 5 0, zi (nI dd), zi (nI i), zi x3, zu]) ⟨rfl, ⟨rfl, ⟨rfl, ⟨rfl, trivial⟩⟩⟩⟩ ?_
    refine wX12_put_0 ⟨fun _ => ?_, fun z2 => absurd z1 z2⟩
    rw [cd, o1 42 _ (by decide), o1 41 _ (by decide), e42, e41, (nt0 ht).1, (nt0 ht).2, ix.1, ix.2.2]
    refine ⟨vd, fun _ => ⟨vd, fun t0 => ⟨vd, fun t1 => ⟨ix.2.1, fun h2 e2 => ⟨rfl, ?_⟩⟩, fun t1 => ⟨ix.2.1, fun h2 e2 => ⟨rfl, ?_⟩⟩⟩, fun t0 => ⟨ix.2.1, fun h2 e2 => ⟨rfl, ?_⟩⟩⟩, fun a2 => absurd ((ix_rng hn0).2.mpr a) a2⟩
    · exact last h2 (by rw [e2]; unfold putV; rw [if_neg t0, if_neg t1])
    · exact last h2 (by rw [e2]; unfold putV; rw [if_neg t0, if_pos t1])
    · exact last h2 (by rw [e2]; unfold putV; rw [if_pos t0])
  · refine zC_of (by decide +kernel) (Nat.le_of_ble_eq_true rfl) (L := [zr 5 0, zi (nI dd), zi x2, zi x3, zu]) ⟨rfl, ⟨rfl, ⟨rfl, ⟨rfl, trivial⟩⟩⟩⟩ ?_
    refine wX12_put_0 ⟨fun _ => ?_, fun z2 => absurd z12 z2⟩
    rw [cd, e42]
    exact ⟨vd, fun a2 => absurd ((ix_rng hn0).2.mp a2) a, fun _ => ⟨rfl, fin⟩⟩
