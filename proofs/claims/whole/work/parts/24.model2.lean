/-! ===== the model's loads ===== -/
theorem kindI_33 (h : ZH) (f : Nat → Int32) (x : Int32) : kindI (zsR h 33 0 f) x = kindI h x := rfl
theorem figI_33 (h : ZH) (f : Nat → Int32) (x : Int32) : figI (zsR h 33 0 f) x = figI h x := rfl
theorem vpn {n N : Nat} (h : n < N) (hN : N ≤ 4096) : vp_in (nI n) N := vp_in_nI h (by omega)
set_option maxHeartbeats 2000000 in
theorem sX12_loads {G : ZG} (d : Nat) {h : ZH} {S P : Nat} (hS : S < 4096) (hP : P < 4096) (hPh : h.1 30 0 1 = nI P) : zC G (d + 4) mX12_loads [zr 5 0, zi (nI S)] h (fun r h' => r = none ∧ h' = zsR h 33 0 (zld (cfgH h P) S 12 (zfl (h.1 33 0) 0 12))) := by
  refine zC_of (by decide +kernel) (Nat.le_of_ble_eq_true rfl) (L := [zr 5 0, zi (nI S), zu, zu, zu]) ⟨rfl, ⟨rfl, trivial⟩⟩ ?_
  refine wX12_loads_0 ?_
  have key2 : ∀ (n : Nat), 4 ≤ n → n ≤ 12 → ∀ ld : Nat → Int32, zT G (d + 4) mX12_loads 24 [zr 5 0, zi (nI S), zi (nI n + (-1)), zu, zu] [] (zsR h 33 0 ld) (fun r h' => r = none ∧ h' = zsR h 33 0 (zld (cfgH h P) S n ld)) := by
    intro n
    induction n with
    | zero => intro h4; omega
    | succ p ih =>
      intro h4 hn ld
      rw [zx_m1]
      refine wX12_loads_24 ?_
      by_cases hp4 : p < 4
      · refine br_t ((zx_lt4 (by omega)).mpr hp4) ⟨rfl, ?_⟩
        have e : p = 3 := by omega
        subst e
        have z : ∀ q, q < 4 → ∀ le : Nat → Int32, zl1 (cfgH h P) S q le = le := by
          intro q hq le
          unfold zl1
          rw [if_neg]
          have : decide (4 ≤ q) = false := by simp; omega
          rw [this]
          simp
        show _ = zsR h 33 0 (zl1 _ S 0 (zl1 _ S 1 (zl1 _ S 2 (zl1 _ S 3 ld))))
        rw [z 3 (by decide), z 2 (by decide), z 1 (by decide), z 0 (by decide)]
      · refine br_f (fun q => hp4 ((zx_lt4 (by omega)).mp q)) ?_
        have hp : p < 12 := by omega
        have h4p : 4 ≤ p := by omega
        have IH := ih h4p (by omega)
        have v12 : vp_in (nI p) 12 := vpn hp (by decide)
        have fS := hasI_iff hS (p := p) (by omega)
        have fP : hasI ((zsR h 33 0 ld).1 30 0 1) (nI p) ↔ P.testBit p = true := by
          rw [show (zsR h 33 0 ld).1 30 0 1 = nI P from hPh]
          exact hasI_iff hP (by omega)
        have fB : hasI (nI S) (nI p - 4) ↔ zbl S p = true := by
          rw [zx_m4 h4p hp]
          exact hasI_iff hS (by omega)
        have fL := leftI_iff hS h4p hp
        have fR := rightI_iff hS h4p hp
        have hm : cM (cfgH h P) p = mnrI (kindI h (nI p)) := rfl
        have step : zld (cfgH h P) S (p + 1) ld = zld (cfgH h P) S p (zl1 (cfgH h P) S p ld) := rfl
        rw [step]
        have hc : cP (cfgH h P) = P := rfl
        have hd4 : decide (4 ≤ p) = true := by simpa using h4p
        simp only [fS, fP, fB, fL, fR, v12, kindI_33, figI_33, forall_eq, true_and]
        by_cases bS : S.testBit p = true
        · by_cases bP : P.testBit p = true
          · have e : zl1 (cfgH h P) S p ld = ld := by
              unfold zl1
              rw [hc, bS, bP, if_neg (by simp)]
            rw [e]
            simp only [bS, bP, not_true_eq_false, Bool.false_eq_true, false_imp_iff, true_imp_iff, true_and, and_true]
            exact IH ld
          · have hcond : (S.testBit p && decide (4 ≤ p) && !(cP (cfgH h P)).testBit p) = true := by
              rw [hc, bS, hd4]; simpa using bP
            simp only [bS, bP, not_true_eq_false, Bool.false_eq_true, not_false_eq_true, false_imp_iff, true_imp_iff, true_and, and_true]
            by_cases bB : zbl S p = true
            · have e : zl1 (cfgH h P) S p ld = upd ld (p - 4) (ld (p - 4) + (cW (cfgH h P) p + ld p)) := by
                unfold zl1
                rw [if_pos hcond, if_pos bB]
              rw [e]
              simp only [bB, not_true_eq_false, Bool.false_eq_true, false_imp_iff, true_imp_iff, true_and, and_true]
              rw [zx_m4 h4p hp]
              refine ⟨vpn (by omega) (by decide), vpn (by omega) (by decide), ?_⟩
              rw [nI_cl (by omega), nI_cl (by omega), zsR_s1, zsR_at, zsR_at, if_pos ⟨rfl, rfl⟩, if_pos ⟨rfl, rfl⟩]
              exact IH _
            · simp only [bB, not_false_eq_true, false_imp_iff, true_imp_iff, true_and, and_true]
              by_cases a : archK (kindI h (nI p))
              · have ma : cM (cfgH h P) p = 1 := by rw [hm]; exact mnr_arch.mpr a
                have n6 : ¬ kindI h (nI p) = 6 := fun q => by rcases a with a | a <;> rw [q] at a <;> exact absurd a (by decide)
                simp only [a, n6, not_true_eq_false, Bool.false_eq_true, not_false_eq_true, false_imp_iff, true_imp_iff, true_and, and_true]
                by_cases l : zlf S p = true
                · by_cases r : zrt S p = true
                  · have e : zl1 (cfgH h P) S p ld = upd (upd ld (p - 5) (ld (p - 5) + (cW (cfgH h P) p + ld p) / 2)) (p - 3) (ld (p - 3) + ((cW (cfgH h P) p + ld p) - (cW (cfgH h P) p + ld p) / 2)) := by
                      unfold zl1
                      rw [if_pos hcond, if_neg bB, if_pos ma, if_pos (by rw [l, r]; rfl)]
                    have h5 : 5 ≤ p := by
                      unfold zlf at l
                      simp only [Bool.and_eq_true, decide_eq_true_eq] at l
                      omega
                    rw [e]
                    simp only [l, r, not_true_eq_false, Bool.false_eq_true, false_imp_iff, true_imp_iff, true_and, and_true]
                    rw [zx_m5 h5 hp, zx_m3 h4p hp]
                    refine ⟨vpn (by omega) (by decide), vpn (by omega) (by decide), vpn (by omega) (by decide), vpn (by omega) (by decide), ?_⟩
                    rw [nI_cl (by omega), nI_cl (by omega), nI_cl (by omega), zsR_s1, zsR_s1, zsR_at, zsR_at, zsR_at, if_pos ⟨rfl, rfl⟩, if_pos ⟨rfl, rfl⟩, if_pos ⟨rfl, rfl⟩, pk_un (by omega)]
                    exact IH _
                  · have e : zl1 (cfgH h P) S p ld = ld := by
                      unfold zl1
                      rw [if_pos hcond, if_neg bB, if_pos ma, if_neg (by simp [r])]
                    rw [e]
                    simp only [l, r, not_true_eq_false, Bool.false_eq_true, not_false_eq_true, false_imp_iff, true_imp_iff, true_and, and_true]
                    exact IH ld
                · have e : zl1 (cfgH h P) S p ld = ld := by
                    unfold zl1
                    rw [if_pos hcond, if_neg bB, if_pos ma, if_neg (by simp [l])]
                  rw [e]
                  simp only [l, not_true_eq_false, Bool.false_eq_true, not_false_eq_true, false_imp_iff, true_imp_iff, true_and, and_true]
                  exact IH ld
              · have ma : ¬ cM (cfgH h P) p = 1 := by rw [hm]; exact fun q => a (mnr_arch.mp q)
                by_cases b6 : kindI h (nI p) = 6
                · have mb : cM (cfgH h P) p = 2 := by rw [hm]; exact mnr_beam.mpr b6
                  have na6 : ¬ archK 6 := by decide
                  simp only [b6, na6, not_true_eq_false, Bool.false_eq_true, not_false_eq_true, false_imp_iff, true_imp_iff, true_and, and_true]
                  by_cases l : zlf S p = true
                  · have e : zl1 (cfgH h P) S p ld = upd ld (p - 5) (ld (p - 5) + (cW (cfgH h P) p + ld p)) := by
                      unfold zl1
                      rw [if_pos hcond, if_neg bB, if_neg ma, if_pos mb, if_pos l]
                    have h5 : 5 ≤ p := by
                      unfold zlf at l
                      simp only [Bool.and_eq_true, decide_eq_true_eq] at l
                      omega
                    have ew : cW (cfgH h P) p = wgtI 6 (figI h (nI p)) := by
                      show wgtI (kindI h (nI p)) _ = _
                      rw [b6]
                    rw [e, ew]
                    simp only [l, not_true_eq_false, Bool.false_eq_true, false_imp_iff, true_imp_iff, true_and, and_true]
                    rw [zx_m5 h5 hp]
                    refine ⟨vpn (by omega) (by decide), vpn (by omega) (by decide), ?_⟩
                    rw [nI_cl (by omega), nI_cl (by omega), zsR_s1, zsR_at, zsR_at, if_pos ⟨rfl, rfl⟩, if_pos ⟨rfl, rfl⟩]
                    exact IH _
                  · by_cases r : zrt S p = true
                    · have e : zl1 (cfgH h P) S p ld = upd ld (p - 3) (ld (p - 3) + (cW (cfgH h P) p + ld p)) := by
                        unfold zl1
                        rw [if_pos hcond, if_neg bB, if_neg ma, if_pos mb, if_neg l, if_pos r]
                      have ew : cW (cfgH h P) p = wgtI 6 (figI h (nI p)) := by
                        show wgtI (kindI h (nI p)) _ = _
                        rw [b6]
                      rw [e, ew]
                      simp only [l, r, not_true_eq_false, Bool.false_eq_true, not_false_eq_true, false_imp_iff, true_imp_iff, true_and, and_true]
                      rw [zx_m3 h4p hp]
                      refine ⟨vpn (by omega) (by decide), vpn (by omega) (by decide), ?_⟩
                      rw [nI_cl (by omega), nI_cl (by omega), zsR_s1, zsR_at, zsR_at, if_pos ⟨rfl, rfl⟩, if_pos ⟨rfl, rfl⟩]
                      exact IH _
                    · have e : zl1 (cfgH h P) S p ld = ld := by
                        unfold zl1
                        rw [if_pos hcond, if_neg bB, if_neg ma, if_pos mb, if_neg l, if_neg r]
                      rw [e]
                      simp only [l, r, not_true_eq_false, Bool.false_eq_true, not_false_eq_true, false_imp_iff, true_imp_iff, true_and, and_true]
                      exact IH ld
                · have mb : ¬ cM (cfgH h P) p = 2 := by rw [hm]; exact fun q => b6 (mnr_beam.mp q)
                  have e : zl1 (cfgH h P) S p ld = ld := by
                    unfold zl1
                    rw [if_pos hcond, if_neg bB, if_neg ma, if_neg mb]
                  rw [e]
                  simp only [a, b6, not_true_eq_false, Bool.false_eq_true, not_false_eq_true, false_imp_iff, true_imp_iff, true_and, and_true]
                  exact IH ld
        · have e : zl1 (cfgH h P) S p ld = ld := by
            unfold zl1
            rw [if_neg (by simp [bS])]
          rw [e]
          simp only [bS, not_true_eq_false, Bool.false_eq_true, not_false_eq_true, false_imp_iff, true_imp_iff, true_and, and_true]
          exact IH ld
  have key1 : ∀ (f m : Nat), f + m = 12 → zT G (d + 4) mX12_loads 2 [zr 5 0, zi (nI S), zi (nI m), zu, zu] [] (zsR h 33 0 (zfl (h.1 33 0) 0 m)) (fun r h' => r = none ∧ h' = zsR h 33 0 (zld (cfgH h P) S 12 (zfl (h.1 33 0) 0 12))) := by
    intro f
    induction f with
    | zero =>
      intro m hm
      have e : m = 12 := by omega
      subst e
      refine wX12_loads_2 ?_
      exact br_t (by decide) (key2 12 (by decide) (by decide) _)
    | succ f ih =>
      intro m hm
      refine wX12_loads_2 ?_
      refine br_f (nI_ge (a := m) (b := 12) (by omega) (by decide)) ⟨vpn (by omega) (by decide), ?_⟩
      intro h1 e1
      rw [e1, nI_cl (by omega), zsR_s1, zfl_upd, nI_1]
      exact ih (m + 1) (by omega)
  have := key1 12 0 (by omega)
  rw [zfl_0, zsR_id] at this
  exact this
theorem zld_fl (c : ZQ5) (S : Nat) (f : Nat → Int32) {j : Nat} (hj : j < 12) : zld c S 12 (zfl f 0 12) j = zlds c S j := by
  unfold zlds
  apply zld_congr c S 12 (Nat.le_refl _)
  · intro k hk
    unfold zfl
    rw [if_pos hk]
  · exact hj
