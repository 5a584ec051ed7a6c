/-! ===== the class: loose, left, the memory of it ===== -/
def zmd (f : Nat → Bool) (n : Nat) : Nat := zmk (fun p => decide (n ≤ p) && f p) 12
theorem zmd_0 (f : Nat → Bool) : zmd f 0 = zmk f 12 := zmk_congr fun p _ => by simp
theorem zmd_12 (f : Nat → Bool) : zmd f 12 = 0 := by
  apply Nat.eq_of_testBit_eq
  intro p
  unfold zmd
  rw [zmk_bit, Nat.zero_testBit]
  by_cases h : p < 12
  · have : ¬ 12 ≤ p := by omega
    simp [this]
  · simp [h]
theorem zmd_no (f : Nat → Bool) {n : Nat} (hf : f n = false) : zmd f (n + 1) = zmd f n := zmk_congr fun p _ => by
  by_cases q : p = n
  · subst q; simp [hf]
  · have : (n + 1 ≤ p) = (n ≤ p) := by apply propext; omega
    rw [decide_eq_decide.mpr (iff_of_eq this)]
theorem zmd_yes (f : Nat → Bool) {n : Nat} (hn : n < 12) (hf : f n = true) : nI (zmd f (n + 1)) ||| ((1 : Int32) <<< (nI n &&& 31)) = nI (zmd f n) := by
  rw [zi_sh hn, zi_or]
  congr 1
  apply Nat.eq_of_testBit_eq
  intro p
  unfold zmd
  rw [Nat.testBit_or, zmk_bit, zmk_bit, zp_bit]
  by_cases q : n = p
  · subst q; simp [hf, hn]
  · have : (n + 1 ≤ p) = (n ≤ p) := by apply propext; omega
    simp [q, this]
theorem zband {T p : Nat} (hp : p < 12) : nI T &&& ((1 : Int32) <<< (nI p &&& 31)) = 0 ↔ ¬ T.testBit p = true := by
  rw [zi_sh hp, zi_band hp]
  simp
theorem zl1_no {c : ZQ5} {T p : Nat} (ld : Nat → Int32) (h : ¬ (T.testBit p = true ∧ 4 ≤ p ∧ ¬ (cP c).testBit p = true)) : zl1 c T p ld = ld := by
  unfold zl1
  rw [if_neg]
  simp only [Bool.and_eq_true, decide_eq_true_eq, Bool.not_eq_true', not_and, and_assoc]
  intro a b q
  exact h ⟨a, b, by simp [q]⟩
set_option maxHeartbeats 2000000 in
theorem sX4_looseIn {G : ZG} (d : Nat) {h : ZH} {T F P : Nat} (hT : T < 4096) (hFh : h.1 2 0 8 = nI F) : zC G (d + 2) mX4_looseIn [zr 2 0, zi (nI T), zi (nI P)] h (fun r h' => r = some (zi (nI (zlz (cfgC h F P) T))) ∧ h' = zsR h 15 0 (zld (cfgC h F P) T 12 (zfl (h.1 15 0) 0 12))) := by
  refine zC_of (by decide +kernel) (Nat.le_of_ble_eq_true rfl) (L := [zr 2 0, zi (nI T), zi (nI P), zu, zu, zu, zu]) ⟨rfl, ⟨rfl, ⟨rfl, trivial⟩⟩⟩ ?_
  refine wX4_looseIn_0 (by decide) ?_
  refine zC_mono (sJ7_fillI (d + 0) rfl (by decide)) ?_
  rintro r h1 ⟨rfl, e1⟩
  refine ⟨rfl, ?_⟩
  let E := zld (cfgC h F P) T 12 (zfl (h.1 15 0) 0 12)
  have hE : ∀ j, j < 12 → E j = zlds (cfgC h F P) T j := fun j hj => zld_fl _ _ _ hj
  have key : ∀ (n : Nat), n ≤ 12 → ∀ ld : Nat → Int32, zld (cfgC h F P) T n ld = E → zT G (d + 2) mX4_looseIn 14 [zr 2 0, zi (nI T), zi (nI P), zi (nI (zmd (zLZ (cfgC h F P) T) n)), zi (nI n + (-1)), zu, zu] [] (zsR h 15 0 ld) (fun r h' => r = some (zi (nI (zlz (cfgC h F P) T))) ∧ h' = zsR h 15 0 E) := by
    intro n
    induction n with
    | zero =>
      intro _ ld hld
      refine wX4_looseIn_14 (by decide) ?_
      refine br_t (by decide) ⟨?_, ?_⟩
      · rw [zmd_0, zlz_mk]
      · rw [← hld]; rfl
    | succ p ih =>
      intro hn ld hld
      have hp : p < 12 := by omega
      have v : vp_in (nI p) 12 := vpn hp (by decide)
      have cl : (nI p).toNatClampNeg = p := nI_cl (by omega)
      rw [zx_m1]
      refine wX4_looseIn_14 (by decide) ?_
      have nneg : ¬ nI p < 0 := by
        have : ∀ p, p < 12 → ¬ nI p < 0 := by decide
        exact this p hp
      refine br_f nneg ?_
      have step : zld (cfgC h F P) T p (zl1 (cfgC h F P) T p ld) = E := hld
      have lp : ld p = zlds (cfgC h F P) T p := by
        rw [← hE p hp, ← hld]
        exact (zld_at _ _ _ _ (Nat.le_refl _)).symm
      have IH := ih (by omega) _ step
      have r15 : (zsR h 15 0 ld).1 15 0 = ld := zsR_row _ _ _ _
      have r13 : ∀ ld, (zsR h 15 0 ld).1 13 0 p = cB (cfgC h F P) p := fun _ => rfl
      simp only [zband hp, zx_lt4 hp, r15, r13, cl, v, true_and, lp]
      by_cases t : T.testBit p = true
      · simp only [t, not_true_eq_false, not_false_eq_true, false_imp_iff, true_imp_iff, true_and, and_true]
        by_cases p4 : p < 4
        · have hd : zhd (cfgC h F P) T p = true := by unfold zhd; simp [p4]
          rw [zl1_no ld (fun q => by omega)] at IH
          simp only [p4, not_true_eq_false, not_false_eq_true, false_imp_iff, true_imp_iff, true_and, and_true]
          refine br_c (fun cc => ?_) (fun cc => ?_)
          · rw [zmd_no _ (by unfold zLZ; simp [hd, Int32.not_lt.mpr cc])]
            exact IH
          · rw [zmd_yes _ hp (by unfold zLZ; simp [t, hd, Int32.not_le.mp cc])]
            exact IH
        · simp only [p4, not_true_eq_false, not_false_eq_true, false_imp_iff, true_imp_iff, true_and, and_true]
          by_cases pr : P.testBit p = true
          · have hd : zhd (cfgC h F P) T p = true := by
              unfold zhd
              rw [show (cP (cfgC h F P)).testBit p = true from pr]
              simp
            rw [zl1_no ld (fun q => q.2.2 pr)] at IH
            simp only [pr, not_true_eq_false, not_false_eq_true, false_imp_iff, true_imp_iff, true_and, and_true]
            refine br_c (fun cc => ?_) (fun cc => ?_)
            · rw [zmd_no _ (by unfold zLZ; simp [hd, Int32.not_lt.mpr cc])]
              exact IH
            · rw [zmd_yes _ hp (by unfold zLZ; simp [t, hd, Int32.not_le.mp cc])]
              exact IH
          · simp only [pr, not_true_eq_false, not_false_eq_true, false_imp_iff, true_imp_iff, true_and, and_true, Bool.false_eq_true]
            refine zC_mono (sX4_restsIn (h := zsR h 15 0 ld) (F := F) (P := P) d hT hFh (by omega) hp t (eq_false_of_ne_true pr)) ?_
            rintro r h2 ⟨rfl, e2⟩
            have ec : cfgC (zsR h 15 0 ld) F P = cfgC h F P := rfl
            rw [r15, zsR_R, ec] at e2
            refine ⟨_, rfl, ?_⟩
            rw [ec, zb_eq0, e2, zsR_row, zl1_at _ _ _ _ (Nat.le_refl p), lp, r13]
            by_cases hd : zhd (cfgC h F P) T p = true
            · simp only [hd, not_true_eq_false, not_false_eq_true, false_imp_iff, true_imp_iff, true_and, and_true]
              refine br_c (fun cc => ?_) (fun cc => ?_)
              · rw [zmd_no _ (by unfold zLZ; simp [hd, Int32.not_lt.mpr cc])]
                exact IH
              · rw [zmd_yes _ hp (by unfold zLZ; simp [t, hd, Int32.not_le.mp cc])]
                exact IH
            · simp only [hd, not_true_eq_false, not_false_eq_true, false_imp_iff, true_imp_iff, true_and, and_true, Bool.false_eq_true]
              rw [zmd_yes _ hp (by unfold zLZ; simp [t, hd])]
              exact IH
      · simp only [t, not_true_eq_false, not_false_eq_true, false_imp_iff, true_imp_iff, true_and, and_true, Bool.false_eq_true]
        rw [zl1_no ld (fun q => t q.1)] at IH
        rw [zmd_no _ (by unfold zLZ; simp [t])]
        exact IH
  rw [e1]
  have := key 12 (Nat.le_refl _) (zfl (h.1 15 0) 0 12) rfl
  rw [zmd_12] at this
  exact this
/-- what looking ahead writes: loads, what is kept of them -/
def eF (k j : Nat) : Bool := decide (k = 15) || decide (k = 17) || decide (k = 1 ∧ j = 5)
def eL (k _j : Nat) : Bool := decide (k = 15)
theorem eF_L {k j : Nat} (h : eF k j = false) : eL k j = false := by
  unfold eF at h
  unfold eL
  simp only [Bool.or_eq_false_iff] at h
  exact h.1.1
theorem eL_no {k j : Nat} (h : k ≠ 15) : eL k j = false := by unfold eL; simp [h]
theorem eF_no {k j : Nat} (h : k ≠ 15) (h2 : k ≠ 17) (h3 : k ≠ 1) : eF k j = false := by unfold eF; simp [h, h2, h3]
/-- the class's hall: the stones there, all else that settling looks at, how often it changed -/
def RC0 (h : ZH) (S : Nat) (c : ZQ5) (N : Nat) : Prop := S < 4096 ∧ cP c < 4096 ∧ cF c < 4096 ∧ h.1 2 0 6 = nI S ∧ h.1 2 0 7 = nI (cP c) ∧ h.1 2 0 8 = nI (cF c) ∧ cfgC h (cF c) (cP c) = c ∧ N < 2 ^ 30 ∧ h.1 2 0 9 = nI N ∧ (h.1 1 0 5 = -1 ∨ ∃ m, m ≤ N ∧ h.1 1 0 5 = nI m) ∧ (h.1 1 0 5 = nI N → ∀ T, T < 4096 → h.1 17 0 T = -1 ∨ h.1 17 0 T = nI (stl c T))
theorem cfgC_row {h h' : ZH} (a : h'.1 12 0 = h.1 12 0) (b : h'.1 13 0 = h.1 13 0) (e : h'.1 14 0 = h.1 14 0) (F P : Nat) : cfgC h' F P = cfgC h F P := by
  unfold cfgC
  rw [a, b, e]
theorem RC0.fx {ex : Nat → Nat → Bool} {h h' : ZH} {S : Nat} {c : ZQ5} {N : Nat} (r : RC0 h S c N) (a : zfx ex h h') (k1 : ex 1 5 = false) (k2 : ∀ j, ex 2 j = false) (k12 : ∀ j, ex 12 j = false) (k13 : ∀ j, ex 13 j = false) (k14 : ∀ j, ex 14 j = false) (k17 : ∀ j, ex 17 j = false) : RC0 h' S c N := by
  obtain ⟨r1, r2, r3, r4, r5, r6, r7, r8, r9, r10, r11⟩ := r
  refine ⟨r1, r2, r3, ?_, ?_, ?_, ?_, r8, ?_, ?_, ?_⟩
  · rw [(a 2 0 6 (k2 _)).1]; exact r4
  · rw [(a 2 0 7 (k2 _)).1]; exact r5
  · rw [(a 2 0 8 (k2 _)).1]; exact r6
  · rw [cfgC_row (a.row 0 k12) (a.row 0 k13) (a.row 0 k14)]; exact r7
  · rw [(a 2 0 9 (k2 _)).1]; exact r9
  · rw [(a 1 0 5 k1).1]; exact r10
  · rw [(a 1 0 5 k1).1, a.row 0 k17]; exact r11
theorem RC0.L {h h' : ZH} {S : Nat} {c : ZQ5} {N : Nat} (r : RC0 h S c N) (a : zfx eL h h') : RC0 h' S c N := r.fx a (by decide) (fun _ => eL_no (by decide)) (fun _ => eL_no (by decide)) (fun _ => eL_no (by decide)) (fun _ => eL_no (by decide)) (fun _ => eL_no (by decide))
theorem sX4_loose {G : ZG} (d : Nat) {h : ZH} {S T : Nat} {c : ZQ5} {N : Nat} (hR : RC0 h S c N) (hT : T < 4096) : zC G (d + 2) mX4_looseIn [zr 2 0, zi (nI T), zi (nI (cP c))] h (fun r h' => r = some (zi (nI (zlz c T))) ∧ zfx eL h h' ∧ ∀ j, j < 12 → h'.1 15 0 j = zlds c T j) := by
  obtain ⟨r1, r2, r3, r4, r5, r6, r7, r8, r9, r10, r11⟩ := hR
  refine zC_mono (sX4_looseIn (P := cP c) d hT r6) ?_
  rintro r h' ⟨rfl, e⟩
  rw [r7] at e
  refine ⟨by rw [r7], ?_, ?_⟩
  · rw [e]; exact zfx.R eL h _ (fun _ => by unfold eL; simp)
  · intro j hj
    rw [e, zsR_row]
    exact zld_fl _ _ _ hj
theorem RC0.P {h : ZH} {S : Nat} {c : ZQ5} {N : Nat} (hR : RC0 h S c N) : h.1 2 0 7 = nI (cP c) := hR.2.2.2.2.1
theorem RC0.S {h : ZH} {S : Nat} {c : ZQ5} {N : Nat} (hR : RC0 h S c N) : h.1 2 0 6 = nI S := hR.2.2.2.1
theorem sX4_weighIn {G : ZG} (d : Nat) {h : ZH} {S T : Nat} {c : ZQ5} {N : Nat} (hR : RC0 h S c N) (hT : T < 4096) : zC G (d + 3) mX4_weighIn [zr 2 0, zi (nI T)] h (fun r h' => r = none ∧ zfx eL h h' ∧ ∀ j, j < 12 → h'.1 15 0 j = zlds c T j) := by
  refine zC_of (by decide +kernel) (Nat.le_of_ble_eq_true rfl) (L := [zr 2 0, zi (nI T)]) ⟨rfl, ⟨rfl, trivial⟩⟩ ?_
  refine wX4_weighIn_0 (by decide) ?_
  rw [hR.P]
  refine zC_mono (sX4_loose d hR hT) ?_
  rintro r h' ⟨rfl, e1, e2⟩
  exact ⟨_, rfl, rfl, e1, e2⟩
theorem sX4_weighAll {G : ZG} (d : Nat) {h : ZH} {S : Nat} {c : ZQ5} {N : Nat} (hR : RC0 h S c N) : zC G (d + 4) mX4_weighAll [zr 2 0] h (fun r h' => r = none ∧ zfx eL h h' ∧ ∀ j, j < 12 → h'.1 15 0 j = zlds c S j) := by
  refine zC_of (by decide +kernel) (Nat.le_of_ble_eq_true rfl) (L := [zr 2 0]) ⟨rfl, trivial⟩ ?_
  refine wX4_weighAll_0 (by decide) ?_
  rw [hR.S]
  refine zC_mono (sX4_weighIn d hR hR.1) ?_
  rintro r h' ⟨rfl, e1, e2⟩
  exact ⟨rfl, rfl, e1, e2⟩
theorem sX4_leftOf {G : ZG} (d : Nat) {h : ZH} {S T : Nat} {c : ZQ5} {N : Nat} (hR : RC0 h S c N) (hT : T < 4096) : zC G (d + 3) mX4_leftOf [zr 2 0, zi (nI T)] h (fun r h' => r = some (zi (nI (stl c T))) ∧ zfx eL h h') := by
  refine zC_of (by decide +kernel) (Nat.le_of_ble_eq_true rfl) (L := [zr 2 0, zi (nI T), zu, zu, zu]) ⟨rfl, ⟨rfl, trivial⟩⟩ ?_
  refine wX4_leftOf_0 (by decide) ?_
  have key : ∀ (n m T' : Nat) (h1 : ZH), n + m = 13 → T' < 4096 → zpc T' < n → zfx eL h h1 → zT G (d + 3) mX4_leftOf 4 [zr 2 0, zi (nI T), zi (nI T'), zi (nI m), zu] [] h1 (fun r h' => r = some (zi (nI (stlN c n T'))) ∧ zfx eL h h') := by
    intro n
    induction n with
    | zero => intro m T' h1 _ _ hz; exact absurd hz (Nat.not_lt_zero _)
    | succ n ih =>
      intro m T' h1 hm hT' hz hf
      refine wX4_leftOf_4 (by decide) ?_
      have nlt : ¬ (12 : Int32) < nI m := by
        have : ∀ m, m < 13 → ¬ (12 : Int32) < nI m := by decide
        exact this m (by omega)
      refine br_f nlt ?_
      have hR1 := hR.L hf
      rw [hR1.P]
      refine zC_mono (sX4_loose d hR1 hT') ?_
      rintro r h2 ⟨rfl, f2, _⟩
      refine ⟨_, rfl, ?_⟩
      have z0 : nI (zlz c T') = 0 ↔ zlz c T' = 0 := by rw [zi_0]; exact zi_inj (zlz_lt c T') (by decide)
      rw [z0]
      refine ⟨fun e => ?_, fun e => ?_⟩
      · rw [zi_not hT', nI_1]
        refine zT_mono (ih (m + 1) (zsd T' (zlz c T')) h2 (by omega) (zsd_lt hT') (by have := zst_pc c hT' e; omega) (hf.tr f2)) ?_
        rintro r h' ⟨q1, q2⟩
        refine ⟨?_, q2⟩
        rw [stlN, if_neg e]
        exact q1
      · refine ⟨?_, hf.tr f2⟩
        rw [stlN, if_pos e]
  exact key 13 0 T h (by omega) hT (by have := zpc_le T; omega) (zfx.rf _ _)
theorem sX4_stepsFrom {G : ZG} (d : Nat) {h : ZH} {S T : Nat} {c : ZQ5} {N : Nat} (hR : RC0 h S c N) (hT : T < 4096) : zC G (d + 3) mX4_stepsFrom [zr 2 0, zi (nI T)] h (fun r h' => r = some (zi (nI (stp c T))) ∧ zfx eL h h') := by
  refine zC_of (by decide +kernel) (Nat.le_of_ble_eq_true rfl) (L := [zr 2 0, zi (nI T), zu, zu, zu]) ⟨rfl, ⟨rfl, trivial⟩⟩ ?_
  refine wX4_stepsFrom_0 (by decide) ?_
  have key : ∀ (n m T' : Nat) (h1 : ZH), n + m = 13 → T' < 4096 → zpc T' < n → zfx eL h h1 → zT G (d + 3) mX4_stepsFrom 4 [zr 2 0, zi (nI T), zi (nI T'), zi (nI m), zu] [] h1 (fun r h' => r = some (zi (nI (m + stpN c n T'))) ∧ zfx eL h h') := by
    intro n
    induction n with
    | zero => intro m T' h1 _ _ hz; exact absurd hz (Nat.not_lt_zero _)
    | succ n ih =>
      intro m T' h1 hm hT' hz hf
      refine wX4_stepsFrom_4 (by decide) ?_
      have nlt : ¬ (12 : Int32) < nI m := by
        have : ∀ m, m < 13 → ¬ (12 : Int32) < nI m := by decide
        exact this m (by omega)
      refine br_f nlt ?_
      have hR1 := hR.L hf
      rw [hR1.P]
      refine zC_mono (sX4_loose d hR1 hT') ?_
      rintro r h2 ⟨rfl, f2, _⟩
      refine ⟨_, rfl, ?_⟩
      have z0 : nI (zlz c T') = 0 ↔ zlz c T' = 0 := by rw [zi_0]; exact zi_inj (zlz_lt c T') (by decide)
      rw [z0]
      refine ⟨fun e => ?_, fun e => ?_⟩
      · rw [zi_not hT', nI_1]
        refine zT_mono (ih (m + 1) (zsd T' (zlz c T')) h2 (by omega) (zsd_lt hT') (by have := zst_pc c hT' e; omega) (hf.tr f2)) ?_
        rintro r h' ⟨q1, q2⟩
        refine ⟨?_, q2⟩
        rw [stpN, if_neg e, q1]
        congr 3; omega
      · refine ⟨?_, hf.tr f2⟩
        rw [stpN, if_pos e]
        rfl
  have := key 13 0 T h (by omega) hT (by have := zpc_le T; omega) (zfx.rf _ _)
  rw [Nat.zero_add] at this
  exact this
theorem z4095b {T : Nat} (hT : T < 4096) : nI T &&& 4095 = nI T := by
  rw [show (4095 : Int32) = nI 4095 from by decide, zi_and]
  congr 1
  apply Nat.eq_of_testBit_eq
  intro p
  rw [Nat.testBit_and, z4095]
  by_cases hp : p < 12
  · simp [hp]
  · rw [zhi hT (by omega)]; rfl
theorem nI_neg1 {n : Nat} (h : n < 2 ^ 31) : nI n ≠ -1 := by
  intro q
  have := congrArg Int32.toInt q
  rw [nI_toInt h] at this
  have e : (-1 : Int32).toInt = -1 := by decide
  rw [e] at this
  omega
set_option maxHeartbeats 1000000 in
theorem sX3_leftOf {G : ZG} (d : Nat) {h : ZH} {S T : Nat} {c : ZQ5} {N : Nat} (hR : RC0 h S c N) (hT : T < 4096) : zC G (d + 4) mX3_leftOf [zr 1 0, zi (nI T)] h (fun r h' => r = some (zi (nI (stl c T))) ∧ RC0 h' S c N ∧ zfx eF h h') := by
  refine zC_of (by decide +kernel) (Nat.le_of_ble_eq_true rfl) (L := [zr 1 0, zi (nI T), zu]) ⟨rfl, ⟨rfl, trivial⟩⟩ ?_
  refine wX3_leftOf_0 ?_
  have v : vp_in (nI T) 4096 := vpn hT (by decide)
  rw [z4095b hT, nI_cl (by omega)]
  simp only [v, true_and]
  -- what follows once the memory is of this hall
  have main : ∀ h1 : ZH, RC0 h1 S c N → h1.1 1 0 5 = nI N → zfx eF h h1 → (¬ h1.1 17 0 T = -1 → (fun r h' => r = some (zi (nI (stl c T))) ∧ RC0 h' S c N ∧ zfx eF h h') (some (zi (h1.1 17 0 T))) h1) ∧ (h1.1 17 0 T = -1 → zC G (d + 3) mX4_leftOf [zr 2 0, zi (nI T)] h1 (fun r2 h2 => ∃ y3 : Int32, r2 = some (zi y3) ∧ ∀ h4 : ZH, h4 = zs1 h2 17 0 T y3 → (fun r h' => r = some (zi (nI (stl c T))) ∧ RC0 h' S c N ∧ zfx eF h h') (some (zi (h4.1 17 0 T))) h4)) := by
    intro h1 hR1 hs f1
    refine ⟨fun e => ?_, fun e => ?_⟩
    · refine ⟨?_, hR1, f1⟩
      rcases hR1.2.2.2.2.2.2.2.2.2.2 hs T hT with q | q
      · exact absurd q e
      · rw [q]
    · refine zC_mono (sX4_leftOf d hR1 hT) ?_
      rintro r h2 ⟨rfl, f2⟩
      refine ⟨_, rfl, ?_⟩
      intro h4 e4
      have hR2 := hR1.L f2
      refine ⟨?_, ?_, ?_⟩
      · rw [e4, zs1_at, if_pos ⟨rfl, rfl, rfl⟩]
      · obtain ⟨r1, r2, r3, r4, r5, r6, r7, r8, r9, r10, r11⟩ := hR2
        have o : ∀ k i j, k ≠ 17 → h4.1 k i j = h2.1 k i j := by
          intro k i j hk
          rw [e4, zs1_at, if_neg (fun q => hk q.1)]
        refine ⟨r1, r2, r3, by rw [o _ _ _ (by decide)]; exact r4, by rw [o _ _ _ (by decide)]; exact r5, by rw [o _ _ _ (by decide)]; exact r6, ?_, r8, by rw [o _ _ _ (by decide)]; exact r9, by rw [o _ _ _ (by decide)]; exact r10, ?_⟩
        · rw [cfgC_row (h := h2) (funext fun j => o _ _ _ (by decide)) (funext fun j => o _ _ _ (by decide)) (funext fun j => o _ _ _ (by decide))]
          exact r7
        · intro q T' hT'
          rw [o _ _ _ (by decide)] at q
          rw [e4, zs1_at]
          by_cases z : T' = T
          · subst z
            rw [if_pos ⟨rfl, rfl, rfl⟩]
            exact Or.inr rfl
          · rw [if_neg (fun q => z q.2.2)]
            exact r11 q T' hT'
      · refine f1.tr ((f2.mono (fun k j => eF_L)).tr ?_)
        rw [e4]
        exact zfx.s1 eF h2 _ (by unfold eF; simp)
  have hN := hR.2.2.2.2.2.2.2.2.1
  refine br_c (fun e => ?_) (fun e => ?_)
  · rw [hN] at e
    exact main h hR e (zfx.rf _ _)
  · refine zC_mono (sJ7_fillI (d + 2) rfl (by decide)) ?_
    rintro r h5 ⟨rfl, e5⟩
    refine ⟨rfl, ?_⟩
    intro h7 e7
    have o7 : ∀ k i j, k ≠ 17 → ¬ (k = 1 ∧ j = 5) → h7.1 k i j = h.1 k i j := by
      intro k i j hk hk2
      rw [e7, zs1_at, if_neg (fun q => hk2 ⟨q.1, q.2.2⟩), e5, zsR_at, if_neg (fun q => hk q.1)]
    have s7 : h7.1 1 0 5 = nI N := by
      rw [e7, zs1_at, if_pos ⟨rfl, rfl, rfl⟩, e5, zsR_at, if_neg (by simp)]
      exact hN
    have m7 : ∀ T', T' < 4096 → h7.1 17 0 T' = -1 := by
      intro T' hT'
      rw [e7, zs1_at, if_neg (by simp), e5, zsR_at, if_pos ⟨rfl, rfl⟩]
      unfold zfl
      rw [if_pos hT']
    refine main h7 ?_ s7 ?_
    · obtain ⟨r1, r2, r3, r4, r5, r6, r7, r8, r9, r10, r11⟩ := hR
      refine ⟨r1, r2, r3, by rw [o7 _ _ _ (by decide) (by decide)]; exact r4, by rw [o7 _ _ _ (by decide) (by decide)]; exact r5, by rw [o7 _ _ _ (by decide) (by decide)]; exact r6, ?_, r8, by rw [o7 _ _ _ (by decide) (by decide)]; exact r9, Or.inr ⟨N, Nat.le_refl _, s7⟩, fun _ T' hT' => Or.inl (m7 T' hT')⟩
      rw [cfgC_row (h := h) (funext fun j => o7 _ _ _ (by decide) (by omega)) (funext fun j => o7 _ _ _ (by decide) (by omega)) (funext fun j => o7 _ _ _ (by decide) (by omega))]
      exact r7
    · rw [e7, e5]
      exact (zfx.R eF h _ (fun _ => by unfold eF; simp)).tr (zfx.s1 eF _ _ (by decide))
