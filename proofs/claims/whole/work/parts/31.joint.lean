/-! ===== laying, becoming as another; the two sides together ===== -/
set_option maxHeartbeats 2000000 in
theorem sX4_lay {G : ZG} (d : Nat) {h : ZH} {S p k : Nat} {f : Int32} {c : ZQ5} {N : Nat} (hR : RC0 h S c N) (hN : N + 1 < 2 ^ 30) (hp : p < 12) (hk : k < 8) : zC G (d + 5) mX4_lay [zr 2 0, zi (nI p), zi (nI k), zi f, zr 4 k] h (fun r h' => ∃ c' : ZQ5, c' = (upd (cW c) p (wgtI (nI k) f), upd (cB c) p (brsI (nI k) f), upd (cM c) p (mnrI (nI k)), (if mnrI (nI k) = 3 then zsd (cF c) (2 ^ p) else cF c ||| 2 ^ p), cP c) ∧ r = some (zi (nI (zpc (S ||| 2 ^ p) - zpc (stl c' (S ||| 2 ^ p))))) ∧ RC0 h' (stl c' (S ||| 2 ^ p)) c' (N + 1) ∧ h'.1 10 0 = upd (h.1 10 0) p (nI k) ∧ h'.1 11 0 = upd (h.1 11 0) p f ∧ zfz eM h h') := by
  refine zC_of (by decide +kernel) (Nat.le_of_ble_eq_true rfl) (L := [zr 2 0, zi (nI p), zi (nI k), zi f, zr 4 k]) ⟨rfl, ⟨rfl, ⟨rfl, ⟨rfl, ⟨rfl, trivial⟩⟩⟩⟩⟩ ?_
  refine wX4_lay_0 (by decide) hk ?_
  have v : vp_in (nI p) 12 := vpn hp (by decide)
  rw [nI_cl (show p ≤ 4096 by omega)]
  simp only [v, true_and]
  intro h1 e1 h2 e2
  refine zCX_mono (oX_weight d hk f) ?_
  rintro r h3 ⟨rfl, rfl⟩
  refine ⟨_, rfl, ?_⟩
  intro h4 e4
  refine zCX_mono (oX_bears d hk f) ?_
  rintro r h5 ⟨rfl, rfl⟩
  refine ⟨_, rfl, ?_⟩
  intro h6 e6
  refine zCX_mono (oX_manner d hk) ?_
  rintro r h7 ⟨rfl, rfl⟩
  refine ⟨_, rfl, ?_⟩
  intro h14 e14
  have hS := hR.1
  have hP := hR.2.1
  have hF := hR.2.2.1
  have rF := hR.2.2.2.2.2.1
  have rc := hR.2.2.2.2.2.2.1
  have r9 := hR.2.2.2.2.2.2.2.2.1
  have f14 : zfz eM h h14 := by
    rw [e14, e6, e4, e2, e1]
    exact ((((zfz.s1 eM h _ rfl).tr (zfz.s1 eM _ _ rfl)).tr (zfz.s1 eM _ _ rfl)).tr (zfz.s1 eM _ _ rfl)).tr (zfz.s1 eM _ _ rfl)
  have o14 : ∀ j, h14.1 2 0 j = h.1 2 0 j := by
    intro j
    rw [e14, zs1_at, if_neg (by simp), e6, zs1_at, if_neg (by simp), e4, zs1_at, if_neg (by simp), e2, zs1_at, if_neg (by simp), e1, zs1_at, if_neg (by simp)]
  have q10 : h14.1 10 0 = upd (h.1 10 0) p (nI k) := by
    funext j
    rw [e14, zs1_at, if_neg (by simp), e6, zs1_at, if_neg (by simp), e4, zs1_at, if_neg (by simp), e2, zs1_at, if_neg (by simp), e1, zs1_row]
  have q11 : h14.1 11 0 = upd (h.1 11 0) p f := by
    funext j
    rw [e14, zs1_at, if_neg (by simp), e6, zs1_at, if_neg (by simp), e4, zs1_at, if_neg (by simp), e2, zs1_row]
    have : h1.1 11 0 = h.1 11 0 := by
      funext j
      rw [e1, zs1_at, if_neg (by simp)]
    rw [this]
  have q12 : h14.1 12 0 = upd (cW c) p (wgtI (nI k) f) := by
    funext j
    rw [e14, zs1_at, if_neg (by simp), e6, zs1_at, if_neg (by simp), e4, zs1_row]
    have : h3.1 12 0 = cW c := by
      rw [← rc]
      funext j
      rw [e2, zs1_at, if_neg (by simp), e1, zs1_at, if_neg (by simp)]
      rfl
    rw [this]
  have q13 : h14.1 13 0 = upd (cB c) p (brsI (nI k) f) := by
    funext j
    rw [e14, zs1_at, if_neg (by simp), e6, zs1_row]
    have : h5.1 13 0 = cB c := by
      rw [← rc]
      funext j
      rw [e4, zs1_at, if_neg (by simp), e2, zs1_at, if_neg (by simp), e1, zs1_at, if_neg (by simp)]
      rfl
    rw [this]
  have q14 : h14.1 14 0 = upd (cM c) p (mnrI (nI k)) := by
    funext j
    rw [e14, zs1_row]
    have : h7.1 14 0 = cM c := by
      rw [← rc]
      funext j
      rw [e6, zs1_at, if_neg (by simp), e4, zs1_at, if_neg (by simp), e2, zs1_at, if_neg (by simp), e1, zs1_at, if_neg (by simp)]
      rfl
    rw [this]
  have m14 : h14.1 14 0 p = mnrI (nI k) := by rw [q14]; unfold upd; simp
  -- the rest, whatever the firm places become
  have fin : ∀ (F' : Nat) (h15 h16 h17 : ZH), F' < 4096 → h15 = zs1 h14 2 0 8 (nI F') → h16 = zs1 h15 2 0 6 (h15.1 2 0 6 ||| (1 : Int32) <<< (nI p &&& 31)) → h17 = zs1 h16 2 0 9 (h16.1 2 0 9 + 1) → zC G (d + 4) mX4_settle [zr 2 0] h17 (fun r19 h18 => ∃ y20 : Int32, r19 = some (zi y20) ∧ ∃ c' : ZQ5, c' = (upd (cW c) p (wgtI (nI k) f), upd (cB c) p (brsI (nI k) f), upd (cM c) p (mnrI (nI k)), F', cP c) ∧ some (zi y20) = some (zi (nI (zpc (S ||| 2 ^ p) - zpc (stl c' (S ||| 2 ^ p))))) ∧ RC0 h18 (stl c' (S ||| 2 ^ p)) c' (N + 1) ∧ h18.1 10 0 = upd (h.1 10 0) p (nI k) ∧ h18.1 11 0 = upd (h.1 11 0) p f ∧ zfz eM h h18) := by
    intro F' h15 h16 h17 hF' e15 e16 e17
    have n6 : h15.1 2 0 6 = nI S := by rw [e15, zs1_at, if_neg (by simp), o14]; exact hR.S
    rw [n6, zi_sh hp, zi_or] at e16
    have n9 : h16.1 2 0 9 = nI N := by rw [e16, zs1_at, if_neg (by simp), e15, zs1_at, if_neg (by simp), o14]; exact r9
    rw [n9, nI_1] at e17
    have o17 : ∀ kk i j, kk ≠ 2 → h17.1 kk i j = h14.1 kk i j := by
      intro kk i j hkk
      rw [e17, zs1_at, if_neg (fun q => hkk q.1), e16, zs1_at, if_neg (fun q => hkk q.1), e15, zs1_at, if_neg (fun q => hkk q.1)]
    have f17 : zfz eM h h17 := by
      refine f14.tr ?_
      rw [e17, e16, e15]
      exact ((zfz.s1 eM _ _ rfl).tr (zfz.s1 eM _ _ rfl)).tr (zfz.s1 eM _ _ rfl)
    have r2 := hR.new (h' := h17) (S' := S ||| 2 ^ p) (F' := F') (P' := cP c) hN (zor_lt hS (zp_lt hp)) hP hF' (by rw [e17, zs1_at, if_neg (by simp), e16, zs1_at, if_pos ⟨rfl, rfl, rfl⟩]) (by rw [e17, zs1_at, if_neg (by simp), e16, zs1_at, if_neg (by simp), e15, zs1_at, if_neg (by simp), o14]; exact hR.P) (by rw [e17, zs1_at, if_neg (by simp), e16, zs1_at, if_neg (by simp), e15, zs1_at, if_pos ⟨rfl, rfl, rfl⟩]) (by rw [e17, zs1_at, if_pos ⟨rfl, rfl, rfl⟩]) ((f17 1 0 5 (by decide)).1)
    have ec : cfgC h17 F' (cP c) = (upd (cW c) p (wgtI (nI k) f), upd (cB c) p (brsI (nI k) f), upd (cM c) p (mnrI (nI k)), F', cP c) := by
      unfold cfgC
      rw [show h17.1 12 0 = upd (cW c) p (wgtI (nI k) f) from (funext fun j => o17 12 0 j (by decide)).trans q12]
      rw [show h17.1 13 0 = upd (cB c) p (brsI (nI k) f) from (funext fun j => o17 13 0 j (by decide)).trans q13]
      rw [show h17.1 14 0 = upd (cM c) p (mnrI (nI k)) from (funext fun j => o17 14 0 j (by decide)).trans q14]
    rw [ec] at r2
    refine zC_mono (sX4_settle d r2) ?_
    rintro r h18 ⟨rfl, z1, z2⟩
    refine ⟨_, rfl, _, rfl, rfl, z1, ?_, ?_, f17.tr (z2.mono fun _ _ _ q => eP_T (eM_P q))⟩
    · rw [z2.row (fun _ => by unfold eT; simp), ← q10]
      exact funext fun j => o17 10 0 j (by decide)
    · rw [z2.row (fun _ => by unfold eT; simp), ← q11]
      exact funext fun j => o17 11 0 j (by decide)
  rw [m14]
  have o8 : h14.1 2 0 8 = nI (cF c) := by rw [o14]; exact rF
  rw [o8]
  refine ⟨fun m3 => ?_, fun m3 => ?_⟩
  · intro h15 e15 h16 e16 h17 e17
    rw [zi_sh hp, zi_or] at e15
    rw [if_neg m3]
    exact fin _ h15 h16 h17 (zor_lt hF (zp_lt hp)) e15 e16 e17
  · intro h15 e15 h16 e16 h17 e17
    rw [zi_sh hp, zi_not hF] at e15
    rw [if_pos m3]
    exact fin _ h15 h16 h17 (zsd_lt hF) e15 e16 e17
def eB (i0 : Nat) (k i _j : Nat) : Bool := decide ((k = 2 ∨ (10 ≤ k ∧ k ≤ 14)) ∧ i = i0)
set_option maxHeartbeats 1000000 in
theorem sX4_becomeAs {G : ZG} (d : Nat) {h : ZH} {i0 i1 : Nat} (hi0 : i0 < zcnt 2) (hi1 : i1 < zcnt 2) (hne : i1 ≠ i0) : zC G (d + 1) mX4_becomeAs [zr 2 i0, zr 2 i1] h (fun r h' => r = none ∧ (∀ k, 10 ≤ k → k ≤ 14 → ∀ p, p < 12 → h'.1 k i0 p = h.1 k i1 p) ∧ (∀ j, 6 ≤ j → j ≤ 8 → h'.1 2 i0 j = h.1 2 i1 j) ∧ h'.1 2 i0 9 = h.1 2 i0 9 + 1 ∧ zfz (eB i0) h h') := by
  refine zC_of (by decide +kernel) (Nat.le_of_ble_eq_true rfl) (L := [zr 2 i0, zr 2 i1]) ⟨rfl, ⟨rfl, trivial⟩⟩ ?_
  refine wX4_becomeAs_0 hi0 hi1 ?_
  intro h1 e1 h2 e2 h3 e3 h4 e4 h5 e5 h6 e6 h7 e7 h8 e8 h9 e9
  have c12 : (12 : Int32).toNatClampNeg = 12 := by decide
  have s1 : ∀ k, k ≠ 10 → ∀ i j, h1.1 k i j = h.1 k i j := fun k hk i j => by rw [e1, zsR_at, if_neg (fun q => hk q.1)]
  have s2 : ∀ k, k ≠ 11 → ∀ i j, h2.1 k i j = h1.1 k i j := fun k hk i j => by rw [e2, zsR_at, if_neg (fun q => hk q.1)]
  have s3 : ∀ k, k ≠ 12 → ∀ i j, h3.1 k i j = h2.1 k i j := fun k hk i j => by rw [e3, zsR_at, if_neg (fun q => hk q.1)]
  have s4 : ∀ k, k ≠ 13 → ∀ i j, h4.1 k i j = h3.1 k i j := fun k hk i j => by rw [e4, zsR_at, if_neg (fun q => hk q.1)]
  have s5 : ∀ k, k ≠ 14 → ∀ i j, h5.1 k i j = h4.1 k i j := fun k hk i j => by rw [e5, zsR_at, if_neg (fun q => hk q.1)]
  have s9 : ∀ k, k ≠ 2 → ∀ i j, h9.1 k i j = h5.1 k i j := fun k hk i j => by rw [e9, zs1_at, if_neg (fun q => hk q.1), e8, zs1_at, if_neg (fun q => hk q.1), e7, zs1_at, if_neg (fun q => hk q.1), e6, zs1_at, if_neg (fun q => hk q.1)]
  have t : ∀ i j, h5.1 2 i j = h.1 2 i j := fun i j => by rw [s5 2 (by decide), s4 2 (by decide), s3 2 (by decide), s2 2 (by decide), s1 2 (by decide)]
  refine ⟨rfl, ?_, ?_, ?_, ?_⟩
  · intro k k1 k2 p hp
    have : k = 10 ∨ k = 11 ∨ k = 12 ∨ k = 13 ∨ k = 14 := by omega
    rw [s9 k (by omega)]
    rcases this with rfl | rfl | rfl | rfl | rfl
    · rw [s5 10 (by decide), s4 10 (by decide), s3 10 (by decide), s2 10 (by decide), e1, zsR_at, if_pos ⟨rfl, rfl⟩, va_cpy_at, if_pos (by rw [c12]; exact hp)]
    · rw [s5 11 (by decide), s4 11 (by decide), s3 11 (by decide), e2, zsR_at, if_pos ⟨rfl, rfl⟩, va_cpy_at, if_pos (by rw [c12]; exact hp), s1 11 (by decide)]
    · rw [s5 12 (by decide), s4 12 (by decide), e3, zsR_at, if_pos ⟨rfl, rfl⟩, va_cpy_at, if_pos (by rw [c12]; exact hp), s2 12 (by decide), s1 12 (by decide)]
    · rw [s5 13 (by decide), e4, zsR_at, if_pos ⟨rfl, rfl⟩, va_cpy_at, if_pos (by rw [c12]; exact hp), s3 13 (by decide), s2 13 (by decide), s1 13 (by decide)]
    · rw [e5, zsR_at, if_pos ⟨rfl, rfl⟩, va_cpy_at, if_pos (by rw [c12]; exact hp), s4 14 (by decide), s3 14 (by decide), s2 14 (by decide), s1 14 (by decide)]
  · intro j j1 j2
    have : j = 6 ∨ j = 7 ∨ j = 8 := by omega
    rcases this with rfl | rfl | rfl
    · rw [e9, zs1_at, if_neg (by simp), e8, zs1_at, if_neg (by simp), e7, zs1_at, if_neg (by simp), e6, zs1_at, if_pos ⟨rfl, rfl, rfl⟩, t]
    · rw [e9, zs1_at, if_neg (by simp), e8, zs1_at, if_neg (by simp), e7, zs1_at, if_pos ⟨rfl, rfl, rfl⟩, e6, zs1_at, if_neg (by simp), t]
    · rw [e9, zs1_at, if_neg (by simp), e8, zs1_at, if_pos ⟨rfl, rfl, rfl⟩, e7, zs1_at, if_neg (by simp), e6, zs1_at, if_neg (by simp), t]
  · rw [e9, zs1_at, if_pos ⟨rfl, rfl, rfl⟩, e8, zs1_at, if_neg (by simp), e7, zs1_at, if_neg (by simp), e6, zs1_at, if_neg (by simp), t]
  · have b : ∀ k j, (k = 2 ∨ (10 ≤ k ∧ k ≤ 14)) → eB i0 k i0 j = true := fun k j q => by unfold eB; simp [q]
    rw [e9, e8, e7, e6, e5, e4, e3, e2, e1]
    exact ((((((((zfz.R _ h _ (fun j => b _ j (by decide))).tr (zfz.R _ _ _ (fun j => b _ j (by decide)))).tr (zfz.R _ _ _ (fun j => b _ j (by decide)))).tr (zfz.R _ _ _ (fun j => b _ j (by decide)))).tr (zfz.R _ _ _ (fun j => b _ j (by decide)))).tr (zfz.s1 _ _ _ (b _ _ (by decide)))).tr (zfz.s1 _ _ _ (b _ _ (by decide)))).tr (zfz.s1 _ _ _ (b _ _ (by decide)))).tr (zfz.s1 _ _ _ (b _ _ (by decide)))
/-- what stands at each place where a stone is: a hall of the class, a row of the model -/
def PW (h : ZH) (i r S F : Nat) : Prop := ∀ p, p < 12 → S.testBit p = true → ∃ k f : Nat, k < 8 ∧ f < 10 ∧ h.1 r 0 (2 + 2 * p) = nI k ∧ h.1 r 0 (2 + 2 * p + 1) = nI f ∧ h.1 10 i p = nI k ∧ h.1 11 i p = nI f ∧ h.1 12 i p = wgtI (nI k) (nI f) ∧ h.1 13 i p = brsI (nI k) (nI f) ∧ h.1 14 i p = mnrI (nI k) ∧ F.testBit p = decide (mnrI (nI k) ≠ 3)
def cfgR (h : ZH) (r P : Nat) : ZQ5 := cfgK (fun p => h.1 r 0 (2 + 2 * p)) (fun p => h.1 r 0 (2 + 2 * p + 1)) P
def HB (h : ZH) (i r S P F : Nat) : Prop := S < 4096 ∧ P < 4096 ∧ F < 4096 ∧ h.1 2 i 6 = nI S ∧ h.1 2 i 7 = nI P ∧ h.1 2 i 8 = nI F ∧ h.1 r 0 0 = nI S ∧ h.1 r 0 1 = nI P ∧ PW h i r S F ∧ zlz (cfgR h r P) S = 0
theorem kindI_n (h : ZH) {p : Nat} (hp : p < 12) : kindI h (nI p) = h.1 30 0 (2 + 2 * p) := by
  have : ∀ p, p < 12 → (2 + 2 * nI p).toNatClampNeg = 2 + 2 * p := by decide
  unfold kindI
  rw [this p hp]
theorem figI_n (h : ZH) {p : Nat} (hp : p < 12) : figI h (nI p) = h.1 30 0 (2 + 2 * p + 1) := by
  have : ∀ p, p < 12 → (2 + 2 * nI p + 1).toNatClampNeg = 2 + 2 * p + 1 := by decide
  unfold figI
  rw [this p hp]
theorem cfgH_R (h : ZH) (P S : Nat) : cEq (cfgH h P) (cfgR h 30 P) S := by
  refine ⟨rfl, fun p hp _ => ⟨?_, ?_, ?_, ?_⟩⟩
  · show wgtI (kindI h (nI p)) (figI h (nI p)) = _
    rw [kindI_n h hp, figI_n h hp]; rfl
  · show brsI (kindI h (nI p)) (figI h (nI p)) = _
    rw [kindI_n h hp, figI_n h hp]; rfl
  · show mnrI (kindI h (nI p)) = _
    rw [kindI_n h hp]; rfl
  · show (zmk (fun p => decide (mnrI (kindI h (nI p)) ≠ 3)) 12).testBit p = (zmk (fun p => decide (mnrI (h.1 30 0 (2 + 2 * p)) ≠ 3)) 12).testBit p
    rw [zms_bit _ hp, zms_bit _ hp, kindI_n h hp]
theorem cEq.sy {c e : ZQ5} {S : Nat} (h : cEq c e S) : cEq e c S := ⟨h.1.symm, fun p hp hb => ⟨(h.2 p hp hb).1.symm, (h.2 p hp hb).2.1.symm, (h.2 p hp hb).2.2.1.symm, (h.2 p hp hb).2.2.2.symm⟩⟩
theorem cEq.tr {c e g : ZQ5} {S : Nat} (h : cEq c e S) (q : cEq e g S) : cEq c g S := ⟨h.1.trans q.1, fun p hp hb => ⟨(h.2 p hp hb).1.trans (q.2 p hp hb).1, (h.2 p hp hb).2.1.trans (q.2 p hp hb).2.1, (h.2 p hp hb).2.2.1.trans (q.2 p hp hb).2.2.1, (h.2 p hp hb).2.2.2.trans (q.2 p hp hb).2.2.2⟩⟩
theorem PW.eq {h : ZH} {S P F : Nat} (w : PW h 0 30 S F) : cEq (cfgC h F P) (cfgH h P) S := by
  refine cEq.tr ?_ (cfgH_R h P S).sy
  refine ⟨rfl, fun p hp hb => ?_⟩
  obtain ⟨k, f, hk, hf, a1, a2, a3, a4, a5, a6, a7, a8⟩ := w p hp hb
  refine ⟨?_, ?_, ?_, ?_⟩
  · show h.1 12 0 p = wgtI (h.1 30 0 (2 + 2 * p)) (h.1 30 0 (2 + 2 * p + 1))
    rw [a5, a1, a2]
  · show h.1 13 0 p = brsI (h.1 30 0 (2 + 2 * p)) (h.1 30 0 (2 + 2 * p + 1))
    rw [a6, a1, a2]
  · show h.1 14 0 p = mnrI (h.1 30 0 (2 + 2 * p))
    rw [a7, a1]
  · show F.testBit p = (zmk (fun p => decide (mnrI (h.1 30 0 (2 + 2 * p)) ≠ 3)) 12).testBit p
    rw [zms_bit _ hp, a1, a8]
