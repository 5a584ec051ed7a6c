/-! ===== one call on both sides; image: together again; restore ===== -/
def JY (n : Nat) (h : ZH) : Prop := ∃ (S : Nat) (c e : ZQ5) (m : Nat), m ≤ n ∧ JX h S c e (m, h)
/-- a call of the class, then the same of the model: the same int, and the two sides together again -/
def zTwo (G : ZG) (d : Nat) (M1 M2 : ZM) (as : List ZV) (n : Nat) (h : ZH) : Prop := zC G d M1 (zr 0 0 :: as) h (fun r h1 => ∃ v : Int32, r = some (zi v) ∧ zC G d M2 (zr 5 0 :: as) h1 (fun r2 h2 => r2 = some (zi v) ∧ JY (n + 200) h2))
def zTwoL (G : ZG) (d : Nat) (M1 M2 : ZM) (as : List ZV) (n : Nat) (h : ZH) : Prop := zC G d M1 (zr 0 0 :: as) h (fun r h1 => ∃ v : Int64, r = some (zl v) ∧ zC G d M2 (zr 5 0 :: as) h1 (fun r2 h2 => r2 = some (zl v) ∧ JY (n + 200) h2))
theorem JX.now {h : ZH} {S : Nat} {c e : ZQ5} {N : ZN} (j : JX h S c e N) : JX h S c e (N.1, h) := ⟨j.1, j.2.1, j.2.2.1, j.2.2.2.1, j.2.2.2.2.1, zfx.rf _ _⟩
theorem JX.y {h : ZH} {S n : Nat} {c e : ZQ5} {N : ZN} (j : JX h S c e N) (hm : N.1 ≤ n) : JY n h := ⟨S, c, e, N.1, hm, j.now⟩
theorem RC0.fr {h h' : ZH} {S N : Nat} {c : ZQ5} (r : RC0 h S c N) (a2 : ∀ j, 6 ≤ j → j ≤ 9 → h'.1 2 0 j = h.1 2 0 j) (ak : ∀ k, 12 ≤ k → k ≤ 14 → h'.1 k 0 = h.1 k 0) (a1 : h'.1 1 0 5 = h.1 1 0 5) (a17 : h'.1 17 0 = h.1 17 0) : RC0 h' S c N := by
  obtain ⟨r1, r2, r3, r4, r5, r6, r7, r8, r9, r10, r11⟩ := r
  refine ⟨r1, r2, r3, by rw [a2 6 (by decide) (by decide)]; exact r4, by rw [a2 7 (by decide) (by decide)]; exact r5, by rw [a2 8 (by decide) (by decide)]; exact r6, ?_, r8, by rw [a2 9 (by decide) (by decide)]; exact r9, by rw [a1]; exact r10, by rw [a1, a17]; exact r11⟩
  rw [cfgC_row (ak 12 (by decide) (by decide)) (ak 13 (by decide) (by decide)) (ak 14 (by decide) (by decide))]
  exact r7
theorem cfgR_cp {h h' : ZH} {r r' P S : Nat} (ar : ∀ j, j < 26 → h'.1 r' 0 j = h.1 r 0 j) : cEq (cfgR h' r' P) (cfgR h r P) S := by
  have key : ∀ p, p < 12 → h'.1 r' 0 (2 + 2 * p) = h.1 r 0 (2 + 2 * p) ∧ h'.1 r' 0 (2 + 2 * p + 1) = h.1 r 0 (2 + 2 * p + 1) := fun p hp => ⟨ar _ (by omega), ar _ (by omega)⟩
  refine ⟨rfl, fun p hp _ => ⟨?_, ?_, ?_, ?_⟩⟩
  · show wgtI (h'.1 r' 0 (2 + 2 * p)) (h'.1 r' 0 (2 + 2 * p + 1)) = wgtI (h.1 r 0 (2 + 2 * p)) (h.1 r 0 (2 + 2 * p + 1))
    rw [(key p hp).1, (key p hp).2]
  · show brsI (h'.1 r' 0 (2 + 2 * p)) (h'.1 r' 0 (2 + 2 * p + 1)) = brsI (h.1 r 0 (2 + 2 * p)) (h.1 r 0 (2 + 2 * p + 1))
    rw [(key p hp).1, (key p hp).2]
  · show mnrI (h'.1 r' 0 (2 + 2 * p)) = mnrI (h.1 r 0 (2 + 2 * p))
    rw [(key p hp).1]
  · show (zmk (fun p => decide (mnrI (h'.1 r' 0 (2 + 2 * p)) ≠ 3)) 12).testBit p = (zmk (fun p => decide (mnrI (h.1 r 0 (2 + 2 * p)) ≠ 3)) 12).testBit p
    rw [zms_bit _ hp, zms_bit _ hp, (key p hp).1]
theorem HB.cp {h h' : ZH} {i r i' r' S P F : Nat} (b : HB h i r S P F) (a2 : ∀ j, 6 ≤ j → j ≤ 8 → h'.1 2 i' j = h.1 2 i j) (ak : ∀ k, 10 ≤ k → k ≤ 14 → ∀ p, p < 12 → h'.1 k i' p = h.1 k i p) (ar : ∀ j, j < 26 → h'.1 r' 0 j = h.1 r 0 j) : HB h' i' r' S P F := by
  obtain ⟨b1, b2, b3, b4, b5, b6, b7, b8, b9, b10⟩ := b
  refine ⟨b1, b2, b3, by rw [a2 6 (by decide) (by decide)]; exact b4, by rw [a2 7 (by decide) (by decide)]; exact b5, by rw [a2 8 (by decide) (by decide)]; exact b6, by rw [ar 0 (by decide)]; exact b7, by rw [ar 1 (by decide)]; exact b8, ?_, ?_⟩
  · intro p hp hb
    obtain ⟨k, f, hk, hf, q1, q2, q3, q4, q5, q6, q7, q8⟩ := b9 p hp hb
    exact ⟨k, f, hk, hf, by rw [ar _ (by omega)]; exact q1, by rw [ar _ (by omega)]; exact q2, by rw [ak 10 (by decide) (by decide) p hp]; exact q3, by rw [ak 11 (by decide) (by decide) p hp]; exact q4, by rw [ak 12 (by decide) (by decide) p hp]; exact q5, by rw [ak 13 (by decide) (by decide) p hp]; exact q6, by rw [ak 14 (by decide) (by decide) p hp]; exact q7, q8⟩
  · rw [zlz_eq b1 (cfgR_cp ar)]
    exact b10
theorem SHd.lo {h h' : ZH} {d : Nat} (s : SHd h d) (a : ∀ k i j, (k = 3 ∨ k = 16 ∨ 38 ≤ k) → h'.1 k i j = h.1 k i j) : SHd h' d := s.fr2 (funext fun x => a 3 d x (by omega)) (funext fun x => a 16 d x (by omega)) (fun k k1 _ => a k 0 d (by omega)) (fun j _ => a 43 0 _ (by omega))
theorem IM.fr {h h' : ZH} (m : IM h) (a6 : h'.1 0 0 6 = h.1 0 0 6) (a3 : h'.1 5 0 3 = h.1 5 0 3) (a2 : ∀ j, 6 ≤ j → j ≤ 8 → h'.1 2 1 j = h.1 2 1 j) (ak : ∀ k, 10 ≤ k → k ≤ 14 → ∀ p, p < 12 → h'.1 k 1 p = h.1 k 1 p) (ar : h'.1 31 0 = h.1 31 0) : IM h' := by
  rcases m with ⟨a, b⟩ | ⟨a, b, S1, P1, F1, q⟩
  · exact Or.inl ⟨by rw [a6]; exact a, by rw [a3]; exact b⟩
  · exact Or.inr ⟨by rw [a6]; exact a, by rw [a3]; exact b, S1, P1, F1, q.fr a2 ak ar⟩
theorem JX.image {h h1 h2 : ZH} {S : Nat} {c e : ZQ5} {N : ZN} (j : JX h S c e N) (q1 : ∀ k, 10 ≤ k → k ≤ 14 → ∀ p, p < 12 → h1.1 k 1 p = h.1 k 0 p) (q2 : ∀ jj, 6 ≤ jj → jj ≤ 8 → h1.1 2 1 jj = h.1 2 0 jj) (q3 : h1.1 0 0 6 = 1) (f1 : zfz eI h h1) (m1 : ∀ jj, jj < 26 → h2.1 31 0 jj = h1.1 30 0 jj) (m2 : h2.1 5 0 3 = 1) (f2 : zfz eIm h1 h2) : JX h2 S c e (N.1, h2) := by
  have n2 : ∀ k i jj, k ≠ 31 → ¬ (k = 5 ∧ jj = 3) → h2.1 k i jj = h1.1 k i jj := fun k i jj a b => (f2 k i jj (by unfold eIm; simp; omega)).1
  have n1 : ∀ k i jj, ¬ ((k = 2 ∨ (10 ≤ k ∧ k ≤ 14)) ∧ i = 1) → ¬ (k = 0 ∧ jj = 6) → h1.1 k i jj = h.1 k i jj := fun k i jj a b => (f1 k i jj (by unfold eI eB; simp; omega)).1
  have low : ∀ k i jj, ¬ ((k = 2 ∨ (10 ≤ k ∧ k ≤ 14)) ∧ i = 1) → ¬ (k = 0 ∧ jj = 6) → k ≠ 31 → ¬ (k = 5 ∧ jj = 3) → h2.1 k i jj = h.1 k i jj := fun k i jj a b c d => (n2 k i jj c d).trans (n1 k i jj a b)
  have g2 : ∀ jj, h2.1 2 0 jj = h.1 2 0 jj := fun jj => low 2 0 jj (by omega) (by omega) (by omega) (by omega)
  have g30 : h2.1 30 0 = h.1 30 0 := funext fun jj => low 30 0 jj (by omega) (by omega) (by omega) (by omega)
  refine ⟨j.1.fr (fun jj _ _ => g2 jj) (fun k k1 k2 p _ => low k 0 p (by omega) (by omega) (by omega) (by omega)) g30, j.c.fr (fun jj _ _ => g2 jj) (fun k k1 k2 => funext fun x => low k 0 x (by omega) (by omega) (by omega) (by omega)) (low 1 0 5 (by omega) (by omega) (by omega) (by omega)) (funext fun x => low 17 0 x (by omega) (by omega) (by omega) (by omega)), j.m.fr g30, ?_, fun d hd => (j.sh d hd).lo (fun k i jj q => low k i jj (by omega) (by omega) (by omega) (by omega)), zfx.rf _ _⟩
  refine Or.inr ⟨by rw [n2 0 0 6 (by omega) (by omega)]; exact q3, m2, S, cP c, cF c, ?_⟩
  refine j.1.cp (fun jj a b => ?_) (fun k k1 k2 p hp => ?_) (fun jj hj => ?_)
  · rw [n2 2 1 jj (by omega) (by omega)]; exact q2 jj a b
  · rw [n2 k 1 p (by omega) (by omega)]; exact q1 k k1 k2 p hp
  · rw [m1 jj hj]; exact n1 30 0 jj (by omega) (by omega)
theorem RM0.of30 {h h' : ZH} {S : Nat} {e : ZQ5} (r : RM0 h S e) (f : h'.1 30 0 = h.1 30 0) : RM0 h' S e := r.fr f
theorem two_image {G : ZG} (d n : Nat) {h : ZH} (jy : JY n h) : zTwo G (d + 2) mX11_image mX12_image [] n h := by
  obtain ⟨S, c, e, m, hm, j⟩ := jy
  refine zC_mono (pX11_image d j) ?_
  rintro r h1 ⟨rfl, q1, q2, q3, f1⟩
  refine ⟨_, rfl, ?_⟩
  refine zC_mono (pX12_image d (j.m.fr (funext fun x => (f1 30 0 x (by unfold eI eB; simp)).1))) ?_
  rintro r h2 ⟨rfl, m1, m2, f2⟩
  exact ⟨rfl, (j.image q1 q2 q3 f1 m1 m2 f2).y (show m ≤ n + 200 by omega)⟩
theorem two_restore {G : ZG} (d n : Nat) {h : ZH} (hn : n + 200 < 2 ^ 30) (jy : JY n h) : zTwo G (d + 2) mX11_restore mX12_restore [] n h := by
  obtain ⟨S, c, e, m, hm, j⟩ := jy
  refine zC_of (by decide +kernel) (Nat.le_of_ble_eq_true rfl) (L := [zr 0 0]) ⟨rfl, trivial⟩ ?_
  refine wX11_restore_0 ?_
  rcases j.2.2.2.1 with ⟨a, b⟩ | ⟨a, b, S1, P1, F1, q⟩
  · refine ⟨fun z => absurd a z, fun _ => ⟨_, rfl, ?_⟩⟩
    refine zC_of (by decide +kernel) (Nat.le_of_ble_eq_true rfl) (L := [zr 5 0]) ⟨rfl, trivial⟩ ?_
    refine wX12_restore_0 ⟨fun z => absurd b z, fun _ => ⟨rfl, j.y (show m ≤ n + 200 by omega)⟩⟩
  · refine ⟨fun _ => ?_, fun z => absurd (a.symm.trans z) (by decide)⟩
    refine zC_mono (sX4_becomeAs (i0 := 0) (i1 := 1) d (by decide) (by decide) (by decide)) ?_
    rintro r h1 ⟨rfl, q1, q2, q3, f1⟩
    have n1 : ∀ k i jj, ¬ ((k = 2 ∨ (10 ≤ k ∧ k ≤ 14)) ∧ i = 0) → h1.1 k i jj = h.1 k i jj := fun k i jj a => (f1 k i jj (by unfold eB; simp; omega)).1
    refine ⟨rfl, _, rfl, ?_⟩
    refine zC_of (by decide +kernel) (Nat.le_of_ble_eq_true rfl) (L := [zr 5 0]) ⟨rfl, trivial⟩ ?_
    refine wX12_restore_0 ⟨fun _ => ?_, fun z => absurd ((b.symm.trans (n1 5 0 3 (by omega)).symm).trans z) (by decide)⟩
    refine zC_mono (sX12_copies d rfl rfl (by decide) (by decide) (by decide)) ?_
    rintro r h2 ⟨rfl, e2⟩
    have n2 : ∀ k i jj, k ≠ 30 → h2.1 k i jj = h1.1 k i jj := fun k i jj a => by rw [e2, zsR_at, if_neg (fun q => a q.1)]
    have low : ∀ k i jj, ¬ ((k = 2 ∨ (10 ≤ k ∧ k ≤ 14)) ∧ i = 0) → k ≠ 30 → h2.1 k i jj = h.1 k i jj := fun k i jj a b => (n2 k i jj b).trans (n1 k i jj a)
    have r30 : ∀ jj, jj < 26 → h2.1 30 0 jj = h.1 31 0 jj := fun jj hj => by
      rw [e2, zsR_at, if_pos ⟨rfl, rfl⟩, if_pos hj]
      exact n1 31 0 jj (by omega)
    have hb2 : HB h2 0 30 S1 P1 F1 := q.cp (fun jj a b => by rw [n2 2 0 jj (by omega)]; exact q2 jj a b) (fun k k1 k2 p hp => by rw [n2 k 0 p (by omega)]; exact q1 k k1 k2 p hp) r30
    have hS := hb2.1
    have hP := hb2.2.1
    have hF := hb2.2.2.1
    have c9 : h2.1 2 0 9 = nI (m + 1) := by
      rw [n2 2 0 9 (by omega), q3, j.c.2.2.2.2.2.2.2.2.1]
      exact nI_1 m
    refine ⟨rfl, ?_, S1, cfgC h2 F1 P1, cfgH h2 P1, m + 1, by omega, hb2, ?_, ⟨hS, hP, hb2.2.2.2.2.2.2.1, hb2.2.2.2.2.2.2.2.1, rfl⟩, ?_, ?_, zfx.rf _ _⟩
    · have k6 : h1.1 2 0 6 = nI S1 := by rw [q2 6 (by decide) (by decide)]; exact q.2.2.2.1
      rw [hb2.2.2.2.2.2.2.1, k6, bcI_nI hS, bitsI_nI hS]
    · exact j.c.new (h' := h2) (by omega) hS hP hF hb2.2.2.2.1 hb2.2.2.2.2.1 hb2.2.2.2.2.2.1 c9 (low 1 0 5 (by omega) (by omega))
    · exact j.2.2.2.1.fr (low 0 0 6 (by omega) (by omega)) (low 5 0 3 (by omega) (by omega)) (fun jj _ _ => low 2 1 jj (by omega) (by omega)) (fun k k1 k2 p _ => low k 1 p (by omega) (by omega)) (funext fun x => low 31 0 x (by omega) (by omega))
    · exact fun d hd => (j.sh d hd).lo (fun k i jj q => low k i jj (by omega) (by omega))
