/-! ===== a shelf changes on both sides ===== -/
def eSc (dd k i _j : Nat) : Bool := decide ((k = 3 ∨ k = 16) ∧ i = dd)
def eSm (dd k _i j : Nat) : Bool := decide ((38 ≤ k ∧ k ≤ 42) ∧ j = dd) || decide (k = 43 ∧ (100 * dd ≤ j ∧ j < 100 * dd + 100))
theorem SHd.fr2 {h h' : ZH} {d : Nat} (s : SHd h d) (a3 : h'.1 3 d = h.1 3 d) (a16 : h'.1 16 d = h.1 16 d) (am : ∀ k, 38 ≤ k → k ≤ 42 → h'.1 k 0 d = h.1 k 0 d) (a43 : ∀ j, j < 100 → h'.1 43 0 (100 * d + j) = h.1 43 0 (100 * d + j)) : SHd h' d := by
  obtain ⟨n, hn, e4, q⟩ := s
  refine ⟨n, hn, by rw [a3]; exact e4, ?_⟩
  rcases q with ⟨q1, q2⟩ | ⟨q1, q2, k, f, hk, hf, r1, r2, r3, r4⟩ | ⟨q1, q2, t, ht, r1, r2, r3, r4⟩
  · exact Or.inl ⟨by rw [a3]; exact q1, by rw [am 38 (by decide) (by decide)]; exact q2⟩
  · exact Or.inr (Or.inl ⟨by rw [a3]; exact q1, by rw [am 38 (by decide) (by decide)]; exact q2, k, f, hk, hf, by rw [a3]; exact r1, by rw [a3]; exact r2, by rw [am 39 (by decide) (by decide)]; exact r3, by rw [am 40 (by decide) (by decide)]; exact r4⟩)
  · refine Or.inr (Or.inr ⟨by rw [a3]; exact q1, by rw [am 38 (by decide) (by decide)]; exact q2, t, ht, by rw [a3]; exact r1, by rw [am 41 (by decide) (by decide)]; exact r2, by rw [am 42 (by decide) (by decide)]; exact r3, fun j hj => ?_⟩)
    rw [a16, a43 j hj]
    exact r4 j hj
theorem JX.shelf {h h1 h2 : ZH} {S dd : Nat} {c e : ZQ5} {N : ZN} (j : JX h S c e N) (fc : zfz (eSc dd) h h1) (fm : zfz (eSm dd) h1 h2) (s : SHd h2 dd) : JX h2 S c e (N.1, h2) := by
  have all : ∀ k i jj, eSc dd k i jj = false → eSm dd k i jj = false → h2.1 k i jj = h.1 k i jj := fun k i jj a b => ((fm k i jj b).1).trans (fc k i jj a).1
  have low : ∀ k i jj, k ≠ 3 → k ≠ 16 → k < 38 → h2.1 k i jj = h.1 k i jj := fun k i jj a b q => all k i jj (by unfold eSc; simp [a, b]) (by unfold eSm; simp; omega)
  obtain ⟨r1, r2, r3, r4, r5, r6, r7, r8, r9, r10, r11⟩ := j.c
  have s17 : h2.1 17 0 = h.1 17 0 := funext fun x => low 17 0 x (by decide) (by decide) (by decide)
  refine ⟨j.1.fr (fun jj _ _ => low 2 0 jj (by decide) (by decide) (by decide)) (fun k _ _ p _ => low k 0 p (by omega) (by omega) (by omega)) (funext fun x => low 30 0 x (by decide) (by decide) (by decide)), ?_, j.m.fr (funext fun x => low 30 0 x (by decide) (by decide) (by decide)), ?_, ?_, zfx.rf _ _⟩
  · refine ⟨r1, r2, r3, by rw [low 2 0 6 (by decide) (by decide) (by decide)]; exact r4, by rw [low 2 0 7 (by decide) (by decide) (by decide)]; exact r5, by rw [low 2 0 8 (by decide) (by decide) (by decide)]; exact r6, ?_, r8, by rw [low 2 0 9 (by decide) (by decide) (by decide)]; exact r9, by rw [low 1 0 5 (by decide) (by decide) (by decide)]; exact r10, by rw [low 1 0 5 (by decide) (by decide) (by decide), s17]; exact r11⟩
    rw [cfgC_row (h := h) (funext fun x => low 12 0 x (by decide) (by decide) (by decide)) (funext fun x => low 13 0 x (by decide) (by decide) (by decide)) (funext fun x => low 14 0 x (by decide) (by decide) (by decide))]
    exact r7
  · rcases j.2.2.2.1 with ⟨a, b⟩ | ⟨a, b, S1, P1, F1, q⟩
    · exact Or.inl ⟨by rw [low 0 0 6 (by decide) (by decide) (by decide)]; exact a, by rw [low 5 0 3 (by decide) (by decide) (by decide)]; exact b⟩
    · exact Or.inr ⟨by rw [low 0 0 6 (by decide) (by decide) (by decide)]; exact a, by rw [low 5 0 3 (by decide) (by decide) (by decide)]; exact b, S1, P1, F1, q.fr (fun jj _ _ => low 2 1 jj (by decide) (by decide) (by decide)) (fun k _ _ p _ => low k 1 p (by omega) (by omega) (by omega)) (funext fun x => low 31 0 x (by decide) (by decide) (by decide))⟩
  · intro d hd
    by_cases z : d = dd
    · rw [z]; exact s
    · refine (j.sh d hd).fr2 (funext fun x => all 3 d x (by unfold eSc; simp [z]) (by unfold eSm; simp)) (funext fun x => all 16 d x (by unfold eSc; simp [z]) (by unfold eSm; simp)) (fun k k1 k2 => all k 0 d (by unfold eSc; simp; omega) (by unfold eSm; simp [z]; omega)) (fun jj hj => all 43 0 (100 * d + jj) (by unfold eSc; simp) (by unfold eSm; simp; omega))
