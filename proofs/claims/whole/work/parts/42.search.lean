/-! ===== the least choice, found by both searches ===== -/
def iterN : Nat → Nat → Nat
  | 0, c => c
  | f + 1, c => iterN f (nextN c)
theorem iterN_s : ∀ (f c : Nat), iterN (f + 1) c = nextN (iterN f c) := by
  intro f
  induction f with
  | zero => intro c; rfl
  | succ f ih => intro c; rw [iterN, ih]; rfl
theorem iterN_add : ∀ (f g c : Nat), iterN (f + g) c = iterN g (iterN f c) := by
  intro f
  induction f with
  | zero => intro g c; rw [Nat.zero_add]; rfl
  | succ f ih => intro g c; rw [Nat.succ_add, iterN, ih]; rfl
theorem chk_ok : ∀ (f c tgt : Nat), chkN f c tgt = true → (∀ i, i < f → keyN (iterN i c) < keyN (iterN (i + 1) c) ∧ iterN (i + 1) c < 4096 ∧ nextI (nI (iterN i c)) = nI (iterN (i + 1) c)) ∧ iterN f c = tgt := by
  intro f
  induction f with
  | zero =>
    intro c tgt h
    exact ⟨fun i hi => absurd hi (Nat.not_lt_zero i), Nat.eq_of_beq_eq_true h⟩
  | succ f ih =>
    intro c tgt h
    rw [chkN] at h
    cases hn : nextN c with
    | zero => rw [hn] at h; cases h
    | succ m =>
      rw [hn] at h
      simp only [Bool.and_eq_true, decide_eq_true_eq] at h
      obtain ⟨⟨h1, h2, h3⟩, h4⟩ := h
      have q := ih (m + 1) tgt h4
      have e : ∀ i, iterN (i + 1) c = iterN i (m + 1) := fun i => by rw [iterN, hn]
      refine ⟨?_, by rw [e]; exact q.2⟩
      intro i hi
      cases i with
      | zero =>
        rw [e]
        have b2 : m + 1 < 4096 := Nat.blt_eq.mp h2
        have b3 : keyF c < keyF (m + 1) := Nat.blt_eq.mp h3
        exact ⟨b3, b2, h1⟩
      | succ i =>
        rw [e, e]
        exact q.1 i (by omega)
/-- the choices, by how many places and then by number -/
def seqN (i : Nat) : Nat := iterN i 0
theorem seq_ok : ∀ i, i < 4095 → keyN (seqN i) < keyN (seqN (i + 1)) ∧ seqN (i + 1) < 4096 ∧ nextI (nI (seqN i)) = nI (seqN (i + 1)) := by
  intro i hi
  have q1 := chk_ok 793 0 3840 chk_1
  have q2 := chk_ok 1 3840 31 chk_2
  have q3 := chk_ok 3301 31 4095 chk_3
  have e793 : ∀ i, seqN (793 + i) = iterN i 3840 := fun i => by unfold seqN; rw [iterN_add, q1.2]
  have e794 : ∀ i, seqN (794 + i) = iterN i 31 := fun i => by
    have : seqN (794 + i) = iterN (1 + i) 3840 := by
      rw [← e793, show 793 + (1 + i) = 794 + i by omega]
    rw [this, iterN_add, q2.2]
  by_cases a : i < 793
  · exact q1.1 i a
  · by_cases b : i = 793
    · subst b
      have := q2.1 0 (by decide)
      have x1 : seqN 793 = iterN 0 3840 := e793 0
      have x2 : seqN 794 = iterN 1 3840 := e793 1
      rw [x1, x2]
      exact this
    · have := q3.1 (i - 794) (by omega)
      have x1 : seqN i = iterN (i - 794) 31 := by
        rw [← e794, show 794 + (i - 794) = i by omega]
      have x2 : seqN (i + 1) = iterN (i - 794 + 1) 31 := by
        rw [← e794, show 794 + (i - 794 + 1) = i + 1 by omega]
      rw [x1, x2]
      exact this
theorem seq_0 : seqN 0 = 0 := rfl
theorem seq_lt {i : Nat} (hi : i ≤ 4095) : seqN i < 4096 := by
  cases i with
  | zero => decide
  | succ i => exact (seq_ok i (by omega)).2.1
theorem seq_mono : ∀ (n i : Nat), i + n ≤ 4095 → keyN (seqN i) ≤ keyN (seqN (i + n)) := by
  intro n
  induction n with
  | zero => intro i _; exact Nat.le_refl _
  | succ n ih =>
    intro i h
    have := ih i (by omega)
    have q := (seq_ok (i + n) (by omega)).1
    have e : i + (n + 1) = i + n + 1 := by omega
    rw [e]
    omega
theorem seq_lt_key {i k : Nat} (h : i < k) (hk : k ≤ 4095) : keyN (seqN i) < keyN (seqN k) := by
  have q := (seq_ok i (by omega)).1
  have r := seq_mono (k - (i + 1)) (i + 1) (by omega)
  have e : i + 1 + (k - (i + 1)) = k := by omega
  rw [e] at r
  omega
theorem seq_onto {T : Nat} (hT : T < 4096) : ∃ i, i ≤ 4095 ∧ seqN i = T := by
  obtain ⟨i, hi, e⟩ := fb_onto (n := 4096) (f := seqN) (fun i hi => seq_lt (by omega)) (fun i j hij hj q => by
    have := seq_lt_key hij (show j ≤ 4095 by omega)
    rw [q] at this
    omega) hT
  exact ⟨i, by omega, e⟩
theorem seq_793 : seqN 793 = 3840 := (chk_ok 793 0 3840 chk_1).2
theorem seq_794 : seqN 794 = 31 := by
  have q2 := (chk_ok 1 3840 31 chk_2).2
  have : seqN (793 + 1) = iterN 1 (seqN 793) := iterN_add 793 1 0
  rw [seq_793, q2] at this
  exact this
/-- the first 794 are those of no more than four places -/
theorem seq_small {i : Nat} (hi : i ≤ 4095) : zpc (seqN i) ≤ 4 ↔ i < 794 := by
  have k1 : keyN (seqN 793) = 4 * 4096 + 3840 := by rw [seq_793]; decide
  have k2 : keyN (seqN 794) = 5 * 4096 + 31 := by rw [seq_794]; decide
  have l := seq_lt hi
  constructor
  · intro h
    apply Classical.byContradiction
    intro q
    have m := seq_mono (i - 794) 794 (by omega)
    have e : 794 + (i - 794) = i := by omega
    rw [e, k2] at m
    unfold keyN at m
    omega
  · intro h
    have m := seq_mono (793 - i) i (by omega)
    have e : i + (793 - i) = 793 := by omega
    rw [e, k1] at m
    unfold keyN at m
    omega
/-- the model's way: over all sets -/
def bestN (good : Nat → Bool) : Nat → Option Nat
  | 0 => none
  | n + 1 => if good n = true ∧ (∀ b, bestN good n = some b → zpc n < zpc b) then some n else bestN good n
def IsBest (good : Nat → Bool) (N T : Nat) : Prop := T < N ∧ good T = true ∧ ∀ U, U < N → good U = true → keyN T ≤ keyN U
theorem key_h1 {a b c x y z : Nat} (h : a < b) (hx : x < 4096) (q : b * 4096 + y ≤ c * 4096 + z) : a * 4096 + x ≤ c * 4096 + z := Nat.le_trans (Nat.le_of_lt (show a * 4096 + x < (a + 1) * 4096 by rw [Nat.succ_mul]; exact Nat.add_lt_add_left hx _)) (Nat.le_trans (Nat.mul_le_mul_right 4096 h) (Nat.le_trans (Nat.le_add_right _ y) q))
theorem key_h2 {a b x y : Nat} (h : ¬ a < b) (hxy : y ≤ x) : b * 4096 + y ≤ a * 4096 + x := Nat.add_le_add (Nat.mul_le_mul_right 4096 (Nat.le_of_not_lt h)) hxy
theorem bestN_is (good : Nat → Bool) : ∀ n, n ≤ 4096 → (bestN good n = none ∧ ∀ U, U < n → ¬ good U = true) ∨ ∃ T, bestN good n = some T ∧ IsBest good n T := by
  intro n
  induction n with
  | zero => intro _; exact Or.inl ⟨rfl, fun U h => absurd h (Nat.not_lt_zero U)⟩
  | succ n ih =>
    intro hn
    rw [bestN]
    rcases ih (by omega) with ⟨e, q⟩ | ⟨T, e, q1, q2, q3⟩
    · by_cases g : good n = true
      · rw [if_pos ⟨g, fun b hb => by rw [e] at hb; cases hb⟩]
        refine Or.inr ⟨n, rfl, Nat.lt_succ_self n, g, fun U hU hg => ?_⟩
        by_cases z : U = n
        · rw [z]; exact Nat.le_refl _
        · exact absurd hg (q U (by omega))
      · rw [if_neg (fun w => g w.1)]
        refine Or.inl ⟨e, fun U hU hg => ?_⟩
        by_cases z : U = n
        · rw [z] at hg; exact g hg
        · exact q U (by omega) hg
    · by_cases g : good n = true
      · by_cases z : zpc n < zpc T
        · rw [if_pos ⟨g, fun b hb => by rw [e] at hb; cases hb; exact z⟩]
          refine Or.inr ⟨n, rfl, Nat.lt_succ_self n, g, fun U hU hg => ?_⟩
          by_cases zz : U = n
          · rw [zz]; exact Nat.le_refl _
          · exact key_h1 z (show n < 4096 by omega) (q3 U (by omega) hg)
        · rw [if_neg (fun w => z (w.2 T e))]
          refine Or.inr ⟨T, e, by omega, q2, fun U hU hg => ?_⟩
          by_cases zz : U = n
          · rw [zz]
            exact key_h2 z (show T ≤ n by omega)
          · exact q3 U (by omega) hg
      · rw [if_neg (fun w => g w.1)]
        refine Or.inr ⟨T, e, by omega, q2, fun U hU hg => ?_⟩
        by_cases zz : U = n
        · rw [zz] at hg; exact absurd hg g
        · exact q3 U (by omega) hg
theorem key_inj {T U : Nat} (hT : T < 4096) (hU : U < 4096) (h : keyN T = keyN U) : T = U := by
  unfold keyN at h
  have := zpc_le T
  have := zpc_le U
  omega
/-- the class's way: the first good one of the row -/
theorem seq_best {good : Nat → Bool} {i : Nat} (hi : i ≤ 4095) (hg : good (seqN i) = true) (hn : ∀ k, k < i → ¬ good (seqN k) = true) : bestN good 4096 = some (seqN i) := by
  have b : IsBest good 4096 (seqN i) := by
    refine ⟨seq_lt hi, hg, fun U hU hgU => ?_⟩
    obtain ⟨k, hk, e⟩ := seq_onto hU
    have : ¬ k < i := fun q => hn k q (by rw [e]; exact hgU)
    have m := seq_mono (k - i) i (by omega)
    have z : i + (k - i) = k := by omega
    rw [z, e] at m
    exact m
  rcases bestN_is good 4096 (Nat.le_refl _) with ⟨e, q⟩ | ⟨T, e, q1, q2, q3⟩
  · exact absurd hg (q _ b.1)
  · rw [e]
    have x1 := q3 _ b.1 b.2.1
    have x2 := b.2.2 T q1 q2
    rw [key_inj q1 b.1 (Nat.le_antisymm x1 x2)]
theorem seq_none {good : Nat → Bool} (hn : ∀ k, k ≤ 4095 → ¬ good (seqN k) = true) : bestN good 4096 = none := by
  rcases bestN_is good 4096 (Nat.le_refl _) with ⟨e, _⟩ | ⟨T, e, q1, q2, q3⟩
  · exact e
  · obtain ⟨k, hk, z⟩ := seq_onto q1
    exact absurd (by rw [z]; exact q2) (hn k hk)
def optV : Option Nat → Int32
  | none => -4
  | some T => nI T
/-- the model's step: is it a better one -/
theorem best_step {good : Nat → Bool} {n : Nat} (hn : n < 4096) : (¬ good n = true → bestN good (n + 1) = bestN good n) ∧ (good n = true → optV (bestN good n) < 0 → bestN good (n + 1) = some n) ∧ (good n = true → ¬ optV (bestN good n) < 0 → (bitsI (nI n) < bitsI (optV (bestN good n)) → bestN good (n + 1) = some n) ∧ (¬ bitsI (nI n) < bitsI (optV (bestN good n)) → bestN good (n + 1) = bestN good n)) := by
  have r := bestN_is good n (by omega)
  refine ⟨fun g => by rw [bestN, if_neg (fun w => g w.1)], fun g o => ?_, fun g o => ?_⟩
  · rcases r with ⟨e, _⟩ | ⟨T, e, q⟩
    · rw [bestN, if_pos ⟨g, fun b hb => by rw [e] at hb; cases hb⟩]
    · rw [e] at o
      exfalso
      have hT := q.1
      have o' : nI T < 0 := o
      rw [fa_lt, nI_toInt (by omega)] at o'
      have : (0 : Int32).toInt = 0 := by decide
      omega
  · rcases r with ⟨e, _⟩ | ⟨T, e, q⟩
    · rw [e] at o; exact absurd (by decide) o
    · have hT := q.1
      have lt : bitsI (nI n) < bitsI (optV (bestN good n)) ↔ zpc n < zpc T := by
        rw [e]
        show bitsI (nI n) < bitsI (nI T) ↔ _
        rw [bitsI_nI (show n < 4096 by omega), bitsI_nI (show T < 4096 by omega)]
        have a := zpc_le n
        have b := zpc_le T
        rw [fa_lt, nI_toInt (by omega), nI_toInt (by omega)]
        omega
      rw [lt]
      refine ⟨fun z => by rw [bestN, if_pos ⟨g, fun b hb => by rw [e] at hb; cases hb; exact z⟩], fun z => by rw [bestN, if_neg (fun w => z (w.2 T e))]⟩
