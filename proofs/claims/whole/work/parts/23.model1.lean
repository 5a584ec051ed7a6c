/-! ===== the model: held, loads ===== -/
theorem sX12_isHeld {G : ZG} (d : Nat) {h : ZH} {x1 x2 : Int32} (hp0 : vp_in x2 12) : zC G (d + 4) mX12_isHeld [zr 5 0, zi x1, zi x2] h (fun r h' => r = some (zi (zb (heldI h x1 x2))) ∧ h' = h) := by
  refine zC_of (by decide +kernel) (Nat.le_of_ble_eq_true rfl) (L := [zr 5 0, zi x1, zi x2]) ⟨rfl, ⟨rfl, ⟨rfl, trivial⟩⟩⟩ ?_
  refine wX12_isHeld_0 ?_
  refine br_c (fun c => ⟨by rw [zb_t (Or.inl (Or.inl c))], rfl⟩) (fun c => br_c (fun c2 => ⟨by rw [zb_t (Or.inl (Or.inr (Or.inl c2)))], rfl⟩) (fun c2 => ⟨fun c3 => ⟨hp0, ?_, ?_⟩, fun c3 => ⟨by rw [zb_t (Or.inl (Or.inr (Or.inr c3)))], rfl⟩⟩))
  · intro ca
    refine ⟨hp0, ?_, ?_⟩
    · intro c6
      refine ⟨hp0, fun cl => ⟨?_, rfl⟩, fun cl => ⟨hp0, fun cg => ⟨?_, rfl⟩, fun cg => ⟨?_, rfl⟩⟩⟩
      · rw [zb_f]
        rintro (q | q)
        · rcases q with q | q | q
          · exact c q
          · exact c2 q
          · exact c3 q
        · rw [if_neg ca, if_neg c6] at q
          exact cl q.1
      · rw [zb_f]
        rintro (q | q)
        · rcases q with q | q | q
          · exact c q
          · exact c2 q
          · exact c3 q
        · rw [if_neg ca, if_neg c6] at q
          exact cg q.2
      · rw [zb_t]
        refine Or.inr ?_
        rw [if_neg ca, if_neg c6]
        exact ⟨cl, cg⟩
    · intro c6
      refine br_c (fun cl => ⟨?_, rfl⟩) (fun cl => ⟨fun cr => ⟨?_, rfl⟩, fun cr => ⟨?_, rfl⟩⟩)
      · rw [zb_t]
        refine Or.inr ?_
        rw [if_neg ca, if_pos c6]
        exact Or.inl cl
      · rw [zb_f]
        rintro (q | q)
        · rcases q with q | q | q
          · exact c q
          · exact c2 q
          · exact c3 q
        · rw [if_neg ca, if_pos c6] at q
          exact q.elim cl cr
      · rw [zb_t]
        refine Or.inr ?_
        rw [if_neg ca, if_pos c6]
        exact Or.inr cr
  · intro ca
    refine ⟨fun cl => ⟨?_, rfl⟩, fun cl => ⟨fun cr => ⟨?_, rfl⟩, fun cr => ⟨?_, rfl⟩⟩⟩
    · rw [zb_f]
      rintro (q | q)
      · rcases q with q | q | q
        · exact c q
        · exact c2 q
        · exact c3 q
      · rw [if_pos ca] at q
        exact cl q.1
    · rw [zb_f]
      rintro (q | q)
      · rcases q with q | q | q
        · exact c q
        · exact c2 q
        · exact c3 q
      · rw [if_pos ca] at q
        exact cr q.2
    · rw [zb_t]
      refine Or.inr ?_
      rw [if_pos ca]
      exact ⟨cl, cr⟩
/-! the ints of places -/
theorem zx_m4 {n : Nat} (h4 : 4 ≤ n) (hn : n < 12) : nI n - 4 = nI (n - 4) := by
  have : ∀ n, n < 12 → 4 ≤ n → nI n - 4 = nI (n - 4) := by decide
  exact this n hn h4
theorem zx_m5 {n : Nat} (h4 : 5 ≤ n) (hn : n < 12) : nI n - 4 - 1 = nI (n - 5) := by
  have : ∀ n, n < 12 → 5 ≤ n → nI n - 4 - 1 = nI (n - 5) := by decide
  exact this n hn h4
theorem zx_m3 {n : Nat} (h4 : 4 ≤ n) (hn : n < 12) : nI n - 4 + 1 = nI (n - 3) := by
  have : ∀ n, n < 12 → 4 ≤ n → nI n - 4 + 1 = nI (n - 3) := by decide
  exact this n hn h4
theorem zx_m1 (n : Nat) : nI (n + 1) + (-1) = nI n := by
  have := nI_pred n
  rw [← this, Int32.sub_eq_add_neg]
theorem zx_lt4 {n : Nat} (hn : n < 12) : nI n < 4 ↔ n < 4 := nI_ltI (by omega) (by decide)
theorem leftI_iff {S n : Nat} (hS : S < 4096) (h4 : 4 ≤ n) (hn : n < 12) : leftI (nI S) (nI n) ↔ zlf S n = true := by
  have key : ∀ n, n < 12 → 4 ≤ n → (n % 4 = 0 ∧ ¬ (0 ≤ modI (nI n) - 1)) ∨ (n % 4 ≠ 0 ∧ (0 ≤ modI (nI n) - 1 ∧ modI (nI n) - 1 ≤ 3) ∧ 4 * (divI (nI n) - 1) + (modI (nI n) - 1) = nI (n - 5)) := by decide
  unfold zlf
  rcases key n hn h4 with ⟨q1, q2⟩ | ⟨q1, q2, q3⟩
  · constructor
    · intro z; exact absurd z.1.1 q2
    · intro z; simp [q1] at z
  · unfold leftI atI
    rw [q3, hasI_iff hS (by omega)]
    simp [q1, q2]
theorem rightI_iff {S n : Nat} (hS : S < 4096) (h4 : 4 ≤ n) (hn : n < 12) : rightI (nI S) (nI n) ↔ zrt S n = true := by
  have key : ∀ n, n < 12 → 4 ≤ n → (n % 4 = 3 ∧ ¬ (modI (nI n) + 1 ≤ 3)) ∨ (n % 4 ≠ 3 ∧ (0 ≤ modI (nI n) + 1 ∧ modI (nI n) + 1 ≤ 3) ∧ 4 * (divI (nI n) - 1) + (modI (nI n) + 1) = nI (n - 3)) := by decide
  unfold zrt
  rcases key n hn h4 with ⟨q1, q2⟩ | ⟨q1, q2, q3⟩
  · constructor
    · intro z; exact absurd z.1.2 q2
    · intro z; simp [q1] at z
  · unfold rightI atI
    rw [q3, hasI_iff hS (by omega)]
    simp [q1, q2]
def mnrI (k : Int32) : Int32 := if archK k then 1 else if k = 6 then 2 else if lightK k then 3 else 0
theorem mnr_arch {k : Int32} : mnrI k = 1 ↔ archK k := by
  unfold mnrI
  by_cases h : archK k
  · rw [if_pos h]; simp [h]
  · rw [if_neg h]
    split
    · simp [h]
    · split <;> simp [h]
theorem mnr_beam {k : Int32} : mnrI k = 2 ↔ k = 6 := by
  unfold mnrI archK lightK
  by_cases h : k = 2 ∨ k = 4
  · rw [if_pos h]
    rcases h with rfl | rfl <;> decide
  · rw [if_neg h]
    split
    · simp [*]
    · split <;> simp [*]
theorem mnr_light {k : Int32} : mnrI k = 3 ↔ lightK k := by
  unfold mnrI archK lightK
  by_cases h : k = 2 ∨ k = 4
  · rw [if_pos h]
    rcases h with rfl | rfl <;> decide
  · rw [if_neg h]
    split
    · rename_i q; subst q; decide
    · split <;> simp [*]
/-- the model's numbers -/
def cfgK (kd fg : Nat → Int32) (P : Nat) : ZQ5 := (fun p => wgtI (kd p) (fg p), fun p => brsI (kd p) (fg p), fun p => mnrI (kd p), zmk (fun p => decide (mnrI (kd p) ≠ 3)) 12, P)
def cfgH (h : ZH) (P : Nat) : ZQ5 := cfgK (fun p => kindI h (nI p)) (fun p => figI h (nI p)) P
theorem clingI_iff {h : ZH} {S P n : Nat} (hS : S < 4096) (hn : n < 12) : clingI h (nI S) (nI n) ↔ zcl (cfgH h P) S n = true := by
  have keyl : ∀ n, n < 12 → (n % 4 = 0 ∧ ¬ (0 ≤ modI (nI n) - 1)) ∨ (n % 4 ≠ 0 ∧ (0 ≤ modI (nI n) - 1 ∧ modI (nI n) - 1 ≤ 3) ∧ 4 * divI (nI n) + (modI (nI n) - 1) = nI (n - 1) ∧ nI n - 1 = nI (n - 1)) := by decide
  have keyr : ∀ n, n < 12 → (n % 4 = 3 ∧ ¬ (modI (nI n) + 1 ≤ 3)) ∨ (n % 4 ≠ 3 ∧ n + 1 < 12 ∧ (0 ≤ modI (nI n) + 1 ∧ modI (nI n) + 1 ≤ 3) ∧ 4 * divI (nI n) + (modI (nI n) + 1) = nI (n + 1) ∧ nI n + 1 = nI (n + 1)) := by decide
  have fm : ∀ q, q < 12 → ((cF (cfgH h P)).testBit q = true ↔ ¬ lightK (kindI h (nI q))) := by
    intro q hq
    show (zmk (fun p => decide (mnrI (kindI h (nI p)) ≠ 3)) 12).testBit q = true ↔ _
    rw [zms_bit _ hq, decide_eq_true_eq, Ne, mnr_light]
  have L : (atI (nI S) (divI (nI n)) (modI (nI n) - 1) ∧ ¬ lightK (kindI h (nI n - 1))) ↔ (decide (n % 4 ≠ 0) && (S.testBit (n - 1) && (cF (cfgH h P)).testBit (n - 1))) = true := by
    rcases keyl n hn with ⟨q1, q2⟩ | ⟨q1, q2, q3, q4⟩
    · constructor
      · intro z; exact absurd z.1.1.1 q2
      · intro z; simp [q1] at z
    · unfold atI
      rw [q3, q4, hasI_iff hS (by omega), ← fm (n - 1) (by omega)]
      simp [q1, q2]
  have R : (atI (nI S) (divI (nI n)) (modI (nI n) + 1) ∧ ¬ lightK (kindI h (nI n + 1))) ↔ (decide (n % 4 ≠ 3) && (S.testBit (n + 1) && (cF (cfgH h P)).testBit (n + 1))) = true := by
    rcases keyr n hn with ⟨q1, q2⟩ | ⟨q1, q0, q2, q3, q4⟩
    · constructor
      · intro z; exact absurd z.1.1.2 q2
      · intro z; simp [q1] at z
    · unfold atI
      rw [q3, q4, hasI_iff hS (by omega), ← fm (n + 1) (by omega)]
      simp [q1, q2]
  unfold clingI zcl
  rw [Bool.or_eq_true, L, R]
theorem heldI_iff {h : ZH} {S P n : Nat} (hS : S < 4096) (hP : P < 4096) (hPh : h.1 30 0 1 = nI P) (hn : n < 12) : heldI h (nI S) (nI n) ↔ zhd (cfgH h P) S n = true := by
  unfold heldI
  rw [hPh]
  by_cases h4 : n < 4
  · have : zhd (cfgH h P) S n = true := by unfold zhd; simp [h4]
    simp only [this, iff_true]
    exact Or.inl (Or.inl ((zx_lt4 hn).mpr h4))
  · have hm : cM (cfgH h P) n = mnrI (kindI h (nI n)) := rfl
    have hp : cP (cfgH h P) = P := rfl
    rw [zx_m4 (by omega) hn, hasI_iff hP (by omega), hasI_iff hS (by omega), leftI_iff hS (by omega) hn, rightI_iff hS (by omega) hn, clingI_iff (P := P) hS hn]
    unfold zhd
    rw [hm, hp]
    simp only [mnr_arch, mnr_beam, mnr_light]
    have e4 : ¬ nI n < 4 := fun q => h4 ((zx_lt4 hn).mp q)
    simp only [e4, h4, false_or, decide_false, Bool.false_or, Bool.or_eq_true]
    unfold zbl
    rw [or_assoc, or_assoc]
    refine or_congr Iff.rfl (or_congr Iff.rfl ?_)
    by_cases a : archK (kindI h (nI n))
    · rw [if_pos a, if_pos a, Bool.and_eq_true]
    · rw [if_neg a, if_neg a]
      by_cases b : kindI h (nI n) = 6
      · rw [if_pos b, if_pos b, Bool.or_eq_true]
      · rw [if_neg b, if_neg b]
        by_cases l : lightK (kindI h (nI n))
        · rw [if_pos l]; simp [l]
        · rw [if_neg l]; simp [l]
