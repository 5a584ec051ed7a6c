/-! ===== takes, props: the hall changes on both sides ===== -/
theorem PW.sub {h : ZH} {i r S S' F : Nat} (w : PW h i r S F) (hS : zle S' S) : PW h i r S' F := fun p hp hb => w p hp (hS p hb)
theorem PW.fr {h h' : ZH} {i r S F : Nat} (w : PW h i r S F) (ak : ∀ k, 10 ≤ k → k ≤ 14 → ∀ p, p < 12 → h'.1 k i p = h.1 k i p) (ar : ∀ j, 2 ≤ j → h'.1 r 0 j = h.1 r 0 j) : PW h' i r S F := by
  intro p hp hb
  obtain ⟨k, f, hk, hf, q1, q2, q3, q4, q5, q6, q7, q8⟩ := w p hp hb
  exact ⟨k, f, hk, hf, by rw [ar _ (by omega)]; exact q1, by rw [ar _ (by omega)]; exact q2, by rw [ak 10 (by decide) (by decide) p hp]; exact q3, by rw [ak 11 (by decide) (by decide) p hp]; exact q4, by rw [ak 12 (by decide) (by decide) p hp]; exact q5, by rw [ak 13 (by decide) (by decide) p hp]; exact q6, by rw [ak 14 (by decide) (by decide) p hp]; exact q7, q8⟩
/-- what one call of the class that changes the hall may write; what one of the model may -/
def eCh (k i j : Nat) : Bool := eA k j || (decide (k = 2 ∧ i = 0) || decide ((10 ≤ k ∧ k ≤ 14) ∧ i = 0))
def eMh (k i j : Nat) : Bool := eV k j || decide (k = 30 ∧ i = 0)
theorem eA_C {k i j : Nat} (h : eCh k i j = false) : eA k j = false := by
  unfold eCh at h
  simp only [Bool.or_eq_false_iff] at h
  exact h.1
theorem eCh_no {k i j : Nat} (h : eA k j = false) (h2 : ¬ (k = 2 ∧ i = 0)) (h3 : ¬ ((10 ≤ k ∧ k ≤ 14) ∧ i = 0)) : eCh k i j = false := by
  unfold eCh
  simp only [Bool.or_eq_false_iff, decide_eq_false_iff_not]
  exact ⟨h, h2, h3⟩
theorem eMh_no {k i j : Nat} (h : eV k j = false) (h2 : ¬ (k = 30 ∧ i = 0)) : eMh k i j = false := by
  unfold eMh
  simp only [Bool.or_eq_false_iff, decide_eq_false_iff_not]
  exact ⟨h, h2⟩
/-- both have changed: together again -/
theorem JX.again {h h1 h2 : ZH} {S S' n : Nat} {c c' e e' : ZQ5} {N : ZN} (j : JX h S c e N) (fc : zfz eCh h h1) (fm : zfz eMh h1 h2) (rc : RC0 h1 S' c' n) (rm : RM0 h2 S' e') (w : PW h2 0 30 S' (cF c')) (hp : cP c' = cP e') (hz : zlz e' S' = 0) : JX h2 S' c' e' (n, h2) := by
  have n2 : ∀ k i jj, k ≠ 30 → eV k jj = false → h2.1 k i jj = h1.1 k i jj := fun k i jj hk hq => (fm k i jj (eMh_no hq (fun q => hk q.1))).1
  have n1 : ∀ k i jj, i ≠ 0 → eA k jj = false → h1.1 k i jj = h.1 k i jj := fun k i jj hi hq => (fc k i jj (eCh_no hq (fun q => hi q.2) (fun q => hi q.2))).1
  have n1' : ∀ k i jj, (k ≠ 2 ∧ ¬ (10 ≤ k ∧ k ≤ 14)) → eA k jj = false → h1.1 k i jj = h.1 k i jj := fun k i jj hk hq => (fc k i jj (eCh_no hq (fun q => hk.1 q.1) (fun q => hk.2 q.1))).1
  have rc2 : RC0 h2 S' c' n := by
    obtain ⟨r1, r2, r3, r4, r5, r6, r7, r8, r9, r10, r11⟩ := rc
    have v : ∀ k jj, k ≠ 33 → k ≠ 5 → eV k jj = false := fun k jj a b => by
      unfold eV
      rw [eS_no a b]
      simp [b]
    have a2 : ∀ jj, h2.1 2 0 jj = h1.1 2 0 jj := fun jj => n2 2 0 jj (by decide) (v _ _ (by decide) (by decide))
    have s1 : h2.1 1 0 5 = h1.1 1 0 5 := n2 1 0 5 (by decide) (v _ _ (by decide) (by decide))
    have s2 : h2.1 17 0 = h1.1 17 0 := funext fun x => n2 17 0 x (by decide) (v _ _ (by decide) (by decide))
    refine ⟨r1, r2, r3, by rw [a2]; exact r4, by rw [a2]; exact r5, by rw [a2]; exact r6, ?_, r8, by rw [a2]; exact r9, by rw [s1]; exact r10, by rw [s1, s2]; exact r11⟩
    rw [cfgC_row (h := h1) (funext fun x => n2 12 0 x (by decide) (v _ _ (by decide) (by decide))) (funext fun x => n2 13 0 x (by decide) (v _ _ (by decide) (by decide))) (funext fun x => n2 14 0 x (by decide) (v _ _ (by decide) (by decide)))]
    exact r7
  have v : ∀ k jj, k ≠ 33 → k ≠ 5 ∨ jj = 3 → eV k jj = false := fun k jj a b => by
    unfold eV eS
    rcases b with b | b
    · simp [a, b]
    · simp [a, b]
  have all : ∀ k i jj, i ≠ 0 ∨ (k ≠ 2 ∧ ¬ (10 ≤ k ∧ k ≤ 14)) → k ≠ 30 → eA k jj = false → k ≠ 33 → (k ≠ 5 ∨ jj = 3) → h2.1 k i jj = h.1 k i jj := by
    intro k i jj a b hA c1 c2
    rw [n2 k i jj b (v _ _ c1 c2)]
    rcases a with a | a
    · exact n1 k i jj a hA
    · exact n1' k i jj a hA
  refine ⟨?_, rc2, rm, ?_, ?_, zfx.rf _ _⟩
  · obtain ⟨m1, m2, m3, m4, m5⟩ := rm
    obtain ⟨r1, r2, r3, r4, r5, r6, r7, r8, r9, r10, r11⟩ := rc2
    refine ⟨r1, r2, r3, r4, r5, r6, m3, by rw [hp]; exact m4, w, ?_⟩
    have q := zlz_eq r1 (cfgH_R h2 (cP c') S')
    rw [← q, hp, m5]
    exact hz
  · rcases j.2.2.2.1 with ⟨a, b⟩ | ⟨a, b, S1, P1, F1, q⟩
    · exact Or.inl ⟨by rw [all 0 0 6 (Or.inr (by omega)) (by decide) (eA_no (by omega)) (by decide) (by omega)]; exact a, by rw [all 5 0 3 (Or.inr (by omega)) (by decide) (eA_no (by omega)) (by decide) (by omega)]; exact b⟩
    · refine Or.inr ⟨by rw [all 0 0 6 (Or.inr (by omega)) (by decide) (eA_no (by omega)) (by decide) (by omega)]; exact a, by rw [all 5 0 3 (Or.inr (by omega)) (by decide) (eA_no (by omega)) (by decide) (by omega)]; exact b, S1, P1, F1, q.fr (fun jj _ _ => all 2 1 jj (Or.inl (by decide)) (by decide) (eA_no (by omega)) (by decide) (by omega)) (fun k k1 k2 p _ => all k 1 p (Or.inl (by decide)) (by omega) (eA_no (by omega)) (by omega) (by omega)) (funext fun x => all 31 0 x (Or.inr (by omega)) (by decide) (eA_no (by omega)) (by decide) (by omega))⟩
  · intro d hd
    exact (j.sh d hd).fr (funext fun x => all 3 d x (Or.inr (by omega)) (by decide) (eA_no (by omega)) (by decide) (by omega)) (funext fun x => all 16 d x (Or.inr (by omega)) (by decide) (eA_no (by omega)) (by decide) (by omega)) (fun k k1 k2 => funext fun x => all k 0 x (Or.inr (by omega)) (by omega) (eA_no (by omega)) (by omega) (by omega))
