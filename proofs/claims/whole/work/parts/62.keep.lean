/-! ===== keep, both sides ===== -/
def keepOk (x w k f : Int32) : Prop := (0 ≤ x ∧ x ≤ 7) ∧ ((0 ≤ w ∧ w ≤ 1) ∧ (w = 0 ∨ ((0 ≤ k ∧ k ≤ 7) ∧ (0 ≤ f ∧ f ≤ 9))))
theorem nlt_le7 {k : Int32} : ¬ 8 ≤ k ↔ k ≤ 7 := by
  rw [fa_le, fa_le]
  have e1 : (8 : Int32).toInt = 8 := by decide
  have e2 : (7 : Int32).toInt = 7 := by decide
  omega
theorem lt10_le9 {f : Int32} : f < 10 ↔ f ≤ 9 := by
  rw [fa_lt, fa_le]
  have e1 : (10 : Int32).toInt = 10 := by decide
  have e2 : (9 : Int32).toInt = 9 := by decide
  omega
theorem sX8_clear {G : ZG} (d : Nat) {h : ZH} {dd : Nat} (hd : dd < 8) : zC G (d + 1) mX8_clear [zr 3 dd] h (fun r h1 => r = none ∧ zfz (eSc dd) h h1 ∧ h1.1 3 dd 0 = 0 ∧ h1.1 3 dd 4 = 0) := by
  refine zC_of (by decide +kernel) (Nat.le_of_ble_eq_true rfl) (L := [zr 3 dd]) ⟨rfl, trivial⟩ ?_
  refine wX8_clear_0 hd ?_
  intro h1 e1 h2 e2
  refine ⟨rfl, ?_, ?_, ?_⟩
  · rw [e2, e1]
    exact (zfz.s1 _ h _ (by unfold eSc; simp)).tr (zfz.s1 _ _ _ (by unfold eSc; simp))
  · rw [e2, zs1_at, if_neg (by simp), e1, zs1_at, if_pos ⟨rfl, rfl, rfl⟩]
  · rw [e2, zs1_at, if_pos ⟨rfl, rfl, rfl⟩]
theorem sX8_holdKind {G : ZG} (d : Nat) {h : ZH} {dd : Nat} {k f : Int32} (hd : dd < 8) : zC G (d + 1) mX8_holdKind [zr 3 dd, zi k, zi f] h (fun r h1 => r = none ∧ zfz (eSc dd) h h1 ∧ h1.1 3 dd 0 = 1 ∧ h1.1 3 dd 1 = k ∧ h1.1 3 dd 2 = f ∧ h1.1 3 dd 4 = 0) := by
  refine zC_of (by decide +kernel) (Nat.le_of_ble_eq_true rfl) (L := [zr 3 dd, zi k, zi f]) ⟨rfl, ⟨rfl, ⟨rfl, trivial⟩⟩⟩ ?_
  refine wX8_holdKind_0 hd ?_
  intro h1 e1 h2 e2 h3 e3 h4 e4
  refine ⟨rfl, ?_, ?_, ?_, ?_, ?_⟩
  · rw [e4, e3, e2, e1]
    exact (((zfz.s1 _ h _ (by unfold eSc; simp)).tr (zfz.s1 _ _ _ (by unfold eSc; simp))).tr (zfz.s1 _ _ _ (by unfold eSc; simp))).tr (zfz.s1 _ _ _ (by unfold eSc; simp))
  · rw [e4, zs1_at, if_neg (by simp), e3, zs1_at, if_neg (by simp), e2, zs1_at, if_neg (by simp), e1, zs1_at, if_pos ⟨rfl, rfl, rfl⟩]
  · rw [e4, zs1_at, if_neg (by simp), e3, zs1_at, if_neg (by simp), e2, zs1_at, if_pos ⟨rfl, rfl, rfl⟩]
  · rw [e4, zs1_at, if_neg (by simp), e3, zs1_at, if_pos ⟨rfl, rfl, rfl⟩]
  · rw [e4, zs1_at, if_pos ⟨rfl, rfl, rfl⟩]
theorem pX11_keep {G : ZG} (d : Nat) {h : ZH} (x w k f : Int32) : zC G (d + 2) mX11_keep [zr 0 0, zi x, zi w, zi k, zi f] h (fun r h1 => (¬ keepOk x w k f ∧ r = some (zi (-1)) ∧ h1 = h) ∨ (keepOk x w k f ∧ r = some (zi 0) ∧ zfz (eSc x.toNatClampNeg) h h1 ∧ h1.1 3 x.toNatClampNeg 4 = 0 ∧ (w = 0 → h1.1 3 x.toNatClampNeg 0 = 0) ∧ (¬ w = 0 → h1.1 3 x.toNatClampNeg 0 = 1 ∧ h1.1 3 x.toNatClampNeg 1 = k ∧ h1.1 3 x.toNatClampNeg 2 = f))) := by
  refine zC_of (by decide +kernel) (Nat.le_of_ble_eq_true rfl) (L := [zr 0 0, zi x, zi w, zi k, zi f]) ⟨rfl, ⟨rfl, ⟨rfl, ⟨rfl, ⟨rfl, trivial⟩⟩⟩⟩⟩ ?_
  refine wX11_keep_0 ?_
  refine ⟨fun a => Or.inl ⟨fun q => a q.1, rfl, rfl⟩, fun a => ⟨fun b => ⟨fun z => ?_, fun z => ?_⟩, fun b => Or.inl ⟨fun q => b q.2.1, rfl, rfl⟩⟩⟩
  · refine ⟨fun k0 => Or.inl ⟨fun q => (q.2.2.resolve_left z).1.1 |> (fa_of_lt k0).2.1, rfl, rfl⟩, fun k0 => ⟨fun k8 => Or.inl ⟨fun q => nlt_le7.mpr (q.2.2.resolve_left z).1.2 k8, rfl, rfl⟩, fun k8 => ⟨fun f0 => Or.inl ⟨fun q => (fa_of_lt f0).2.1 (q.2.2.resolve_left z).2.1, rfl, rfl⟩, fun f0 => ⟨fun f9 => ?_, fun f9 => Or.inl ⟨fun q => f9 (lt10_le9.mpr (q.2.2.resolve_left z).2.2), rfl, rfl⟩⟩⟩⟩⟩
    have ok : keepOk x w k f := ⟨a, b, Or.inr ⟨⟨fa_of_nlt k0, nlt_le7.mp k8⟩, ⟨fa_of_nlt f0, lt10_le9.mp f9⟩⟩⟩
    obtain ⟨dd, hd, rfl⟩ := zin8 a
    rw [nI_cl (show dd ≤ 4096 by omega)]
    refine ⟨vpn hd (by decide), ?_⟩
    refine zC_mono (sX8_holdKind d hd) ?_
    rintro r h1 ⟨rfl, q1, q2, q3, q4, q5⟩
    exact ⟨rfl, Or.inr ⟨ok, rfl, q1, q5, fun w0 => absurd w0 z, fun _ => ⟨q2, q3, q4⟩⟩⟩
  · have ok : keepOk x w k f := ⟨a, b, Or.inl z⟩
    obtain ⟨dd, hd, rfl⟩ := zin8 a
    rw [nI_cl (show dd ≤ 4096 by omega)]
    refine ⟨vpn hd (by decide), ?_⟩
    refine zC_mono (sX8_clear d hd) ?_
    rintro r h1 ⟨rfl, q1, q2, q3⟩
    exact ⟨rfl, Or.inr ⟨ok, rfl, q1, q3, fun _ => q2, fun w1 => absurd z w1⟩⟩
theorem pX12_keep {G : ZG} (d : Nat) {h1 : ZH} (x w k f : Int32) : zC G (d + 3) mX12_keep [zr 5 0, zi x, zi w, zi k, zi f] h1 (fun r h2 => (¬ keepOk x w k f ∧ r = some (zi (-1)) ∧ h2 = h1) ∨ (keepOk x w k f ∧ r = some (zi 0) ∧ zfz (eSm x.toNatClampNeg) h1 h2 ∧ h2.1 38 0 x.toNatClampNeg = w ∧ h2.1 39 0 x.toNatClampNeg = k ∧ h2.1 40 0 x.toNatClampNeg = f)) := by
  refine zC_of (by decide +kernel) (Nat.le_of_ble_eq_true rfl) (L := [zr 5 0, zi x, zi w, zi k, zi f]) ⟨rfl, ⟨rfl, ⟨rfl, ⟨rfl, ⟨rfl, trivial⟩⟩⟩⟩⟩ ?_
  refine wX12_keep_0 ?_
  have fin : ∀ dd : Nat, x = nI dd → dd < 8 → keepOk x w k f → ∀ h2 : ZH, h2 = zs1 h1 38 0 dd w → ∀ h3 : ZH, h3 = zs1 h2 39 0 dd k → ∀ h4 : ZH, h4 = zs1 h3 40 0 dd f → (¬ keepOk x w k f ∧ (some (zi 0) : Option ZV) = some (zi (-1)) ∧ h4 = h1) ∨ (keepOk x w k f ∧ (some (zi 0) : Option ZV) = some (zi 0) ∧ zfz (eSm x.toNatClampNeg) h1 h4 ∧ h4.1 38 0 x.toNatClampNeg = w ∧ h4.1 39 0 x.toNatClampNeg = k ∧ h4.1 40 0 x.toNatClampNeg = f) := by
    intro dd ex hd ok h2 e2 h3 e3 h4 e4
    have cx : x.toNatClampNeg = dd := by rw [ex]; exact nI_cl (by omega)
    rw [cx]
    refine Or.inr ⟨ok, rfl, ?_, ?_, ?_, ?_⟩
    · rw [e4, e3, e2]
      exact ((zfz.s1 _ h1 _ (by unfold eSm; simp)).tr (zfz.s1 _ _ _ (by unfold eSm; simp))).tr (zfz.s1 _ _ _ (by unfold eSm; simp))
    · rw [e4, zs1_at, if_neg (by simp), e3, zs1_at, if_neg (by simp), e2, zs1_at, if_pos ⟨rfl, rfl, rfl⟩]
    · rw [e4, zs1_at, if_neg (by simp), e3, zs1_at, if_pos ⟨rfl, rfl, rfl⟩]
    · rw [e4, zs1_at, if_pos ⟨rfl, rfl, rfl⟩]
  refine ⟨fun a => Or.inl ⟨fun q => a q.1, rfl, rfl⟩, fun a => ⟨fun b => Or.inl ⟨fun q => b q.2.1, rfl, rfl⟩, fun b => ⟨fun w1 => ?_, fun w1 => ⟨fun kb => Or.inl ⟨fun q => kb (q.2.2.resolve_left (by rw [w1]; decide)).1, rfl, rfl⟩, fun kb => ⟨fun fb => ?_, fun fb => Or.inl ⟨fun q => fb (q.2.2.resolve_left (by rw [w1]; decide)).2, rfl, rfl⟩⟩⟩⟩⟩⟩
  · have w0 : w = 0 := (n01 b).resolve_right w1
    obtain ⟨dd, hd, ex⟩ := zin8 a
    have cx : x.toNatClampNeg = dd := by rw [ex]; exact nI_cl (by omega)
    have v : vp_in x 8 := by rw [ex]; exact vpn hd (by decide)
    rw [cx]
    have := fin dd ex hd ⟨a, b, Or.inl w0⟩
    rw [cx] at this
    exact ⟨v, fun h2 e2 => ⟨v, fun h3 e3 => ⟨v, fun h4 e4 => this h2 e2 h3 e3 h4 e4⟩⟩⟩
  · obtain ⟨dd, hd, ex⟩ := zin8 a
    have cx : x.toNatClampNeg = dd := by rw [ex]; exact nI_cl (by omega)
    have v : vp_in x 8 := by rw [ex]; exact vpn hd (by decide)
    rw [cx]
    have := fin dd ex hd ⟨a, b, Or.inr ⟨kb, fb⟩⟩
    rw [cx] at this
    exact ⟨v, fun h2 e2 => ⟨v, fun h3 e3 => ⟨v, fun h4 e4 => this h2 e2 h3 e3 h4 e4⟩⟩⟩
