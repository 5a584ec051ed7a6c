/-! ===== how a hall settles, as numbers: c = (weights, bears, manners, which are firm, props) ===== -/
abbrev ZQ5 : Type := (Nat → Int32) × (Nat → Int32) × (Nat → Int32) × Nat × Nat
abbrev cW (c : ZQ5) : Nat → Int32 := c.1
abbrev cB (c : ZQ5) : Nat → Int32 := c.2.1
abbrev cM (c : ZQ5) : Nat → Int32 := c.2.2.1
abbrev cF (c : ZQ5) : Nat := c.2.2.2.1
abbrev cP (c : ZQ5) : Nat := c.2.2.2.2
def zlf (S p : Nat) : Bool := decide (p % 4 ≠ 0) && S.testBit (p - 5)
def zrt (S p : Nat) : Bool := decide (p % 4 ≠ 3) && S.testBit (p - 3)
def zbl (S p : Nat) : Bool := S.testBit (p - 4)
def zcl (c : ZQ5) (S p : Nat) : Bool := (decide (p % 4 ≠ 0) && (S.testBit (p - 1) && (cF c).testBit (p - 1))) || (decide (p % 4 ≠ 3) && (S.testBit (p + 1) && (cF c).testBit (p + 1)))
def zhd (c : ZQ5) (S p : Nat) : Bool := decide (p < 4) || (cP c).testBit p || zbl S p || (if cM c p = 1 then zlf S p && zrt S p else if cM c p = 2 then zlf S p || zrt S p else if cM c p = 3 then zcl c S p else false)
def zl1 (c : ZQ5) (S p : Nat) (ld : Nat → Int32) : Nat → Int32 :=
  if (S.testBit p && decide (4 ≤ p) && !(cP c).testBit p) = true then
    (if zbl S p = true then upd ld (p - 4) (ld (p - 4) + (cW c p + ld p))
    else if cM c p = 1 then (if (zlf S p && zrt S p) = true then upd (upd ld (p - 5) (ld (p - 5) + (cW c p + ld p) / 2)) (p - 3) (ld (p - 3) + ((cW c p + ld p) - (cW c p + ld p) / 2)) else ld)
    else if cM c p = 2 then (if zlf S p = true then upd ld (p - 5) (ld (p - 5) + (cW c p + ld p)) else if zrt S p = true then upd ld (p - 3) (ld (p - 3) + (cW c p + ld p)) else ld)
    else ld)
  else ld
def zld (c : ZQ5) (S : Nat) : Nat → (Nat → Int32) → (Nat → Int32)
  | 0, ld => ld
  | n + 1, ld => zld c S n (zl1 c S n ld)
/-- the loads -/
def zlds (c : ZQ5) (S : Nat) : Nat → Int32 := zld c S 12 (fun _ => 0)
/-- those that fall at once -/
def zlz (c : ZQ5) (S : Nat) : Nat := zmk (fun p => S.testBit p && (!zhd c S p || decide (cB c p < zlds c S p))) 12
def stlN (c : ZQ5) : Nat → Nat → Nat
  | 0, S => S
  | n + 1, S => if zlz c S = 0 then S else stlN c n (zsd S (zlz c S))
/-- what is left -/
def stl (c : ZQ5) (S : Nat) : Nat := stlN c 13 S
def stpN (c : ZQ5) : Nat → Nat → Nat
  | 0, _ => 0
  | n + 1, S => if zlz c S = 0 then 0 else stpN c n (zsd S (zlz c S)) + 1
def stp (c : ZQ5) (S : Nat) : Nat := stpN c 13 S
theorem zlz_le (c : ZQ5) (S : Nat) : zle (zlz c S) S := fun p h => by
  unfold zlz at h
  rw [zmk_bit] at h
  simp only [Bool.and_eq_true] at h
  exact h.2.1
theorem zlz_lt (c : ZQ5) (S : Nat) : zlz c S < 4096 := zms_lt _
theorem zsd_eq {S T : Nat} (hS : S < 4096) (h : zsd S T = S) (hl : zle T S) : T = 0 := by
  apply Nat.eq_of_testBit_eq
  intro p
  rw [Nat.zero_testBit]
  rcases hp : T.testBit p with _ | _
  · rfl
  · have h1 : (zsd S T).testBit p = S.testBit p := by rw [h]
    rw [zsd_bit hS, hp, hl p hp] at h1
    cases h1
theorem zsd_0 {S : Nat} (hS : S < 4096) : zsd S 0 = S := by
  apply zs_ext (zsd_lt hS) hS
  intro p hp
  rw [zsd_bit hS]
  simp
theorem zst_pc (c : ZQ5) {S : Nat} (hS : S < 4096) (h : zlz c S ≠ 0) : zpc (zsd S (zlz c S)) < zpc S :=
  zpc_lt (zsd_le hS) (zsd_lt hS) hS (fun q => h (zsd_eq hS q (zlz_le c S)))
theorem stlN_le (c : ZQ5) : ∀ (n : Nat) {S : Nat}, S < 4096 → zle (stlN c n S) S := by
  intro n
  induction n with
  | zero => intro S hS; exact zle_rf S
  | succ n ih =>
    intro S hS
    rw [stlN]
    by_cases h : zlz c S = 0
    · rw [if_pos h]; exact zle_rf S
    · rw [if_neg h]; exact zle_tr (ih (zsd_lt hS)) (zsd_le hS)
theorem stl_le (c : ZQ5) {S : Nat} (hS : S < 4096) : zle (stl c S) S := stlN_le c 13 hS
theorem stl_lt (c : ZQ5) {S : Nat} (hS : S < 4096) : stl c S < 4096 := zle_lt (stl_le c hS) hS
theorem stlN_fix (c : ZQ5) : ∀ (n : Nat) {S : Nat}, S < 4096 → zpc S < n → zlz c (stlN c n S) = 0 := by
  intro n
  induction n with
  | zero => intro S _ h; omega
  | succ n ih =>
    intro S hS hn
    rw [stlN]
    by_cases h : zlz c S = 0
    · rw [if_pos h]; exact h
    · rw [if_neg h]
      have := zst_pc c hS h
      exact ih (zsd_lt hS) (by omega)
theorem stlN_more (c : ZQ5) : ∀ (n : Nat) {S : Nat}, S < 4096 → zpc S < n → stlN c (n + 1) S = stlN c n S := by
  intro n
  induction n with
  | zero => intro S _ h; omega
  | succ n ih =>
    intro S hS hn
    show (if zlz c S = 0 then S else stlN c (n + 1) (zsd S (zlz c S))) = (if zlz c S = 0 then S else stlN c n (zsd S (zlz c S)))
    by_cases h : zlz c S = 0
    · rw [if_pos h, if_pos h]
    · rw [if_neg h, if_neg h]
      have := zst_pc c hS h
      exact ih (zsd_lt hS) (by omega)
theorem stpN_more (c : ZQ5) : ∀ (n : Nat) {S : Nat}, S < 4096 → zpc S < n → stpN c (n + 1) S = stpN c n S := by
  intro n
  induction n with
  | zero => intro S _ h; omega
  | succ n ih =>
    intro S hS hn
    show (if zlz c S = 0 then 0 else stpN c (n + 1) (zsd S (zlz c S)) + 1) = (if zlz c S = 0 then 0 else stpN c n (zsd S (zlz c S)) + 1)
    by_cases h : zlz c S = 0
    · rw [if_pos h, if_pos h]
    · rw [if_neg h, if_neg h]
      have := zst_pc c hS h
      rw [ih (zsd_lt hS) (by omega)]
theorem stpN_le (c : ZQ5) : ∀ (n : Nat) {S : Nat}, S < 4096 → stpN c n S ≤ zpc S := by
  intro n
  induction n with
  | zero => intro S _; exact Nat.zero_le _
  | succ n ih =>
    intro S hS
    rw [stpN]
    by_cases h : zlz c S = 0
    · rw [if_pos h]; exact Nat.zero_le _
    · rw [if_neg h]
      have := zst_pc c hS h
      have := ih (zsd_lt (T := zlz c S) hS)
      omega
theorem stl_fix (c : ZQ5) {S : Nat} (hS : S < 4096) : zlz c (stl c S) = 0 := stlN_fix c 13 hS (by have := zpc_le S; omega)
theorem stl_of (c : ZQ5) {S : Nat} (h : zlz c S = 0) : stl c S = S := by
  unfold stl
  rw [stlN, if_pos h]
theorem stl_stl (c : ZQ5) {S : Nat} (hS : S < 4096) : stl c (stl c S) = stl c S := stl_of c (stl_fix c hS)
theorem stl_iff (c : ZQ5) {S : Nat} (hS : S < 4096) : stl c S = S ↔ zlz c S = 0 := ⟨fun h => by have := stl_fix c hS; rw [h] at this; exact this, stl_of c⟩
/-! two hall's numbers that agree on a set settle its parts alike -/
def cEq (c e : ZQ5) (S : Nat) : Prop := cP c = cP e ∧ ∀ p, p < 12 → S.testBit p = true → cW c p = cW e p ∧ cB c p = cB e p ∧ cM c p = cM e p ∧ (cF c).testBit p = (cF e).testBit p
theorem cEq.sub {c e : ZQ5} {S T : Nat} (h : cEq c e S) (hT : zle T S) : cEq c e T := ⟨h.1, fun p hp hb => h.2 p hp (hT p hb)⟩
theorem zl1_eq {c e : ZQ5} {S : Nat} (h : cEq c e S) {p : Nat} (hp : p < 12) (ld : Nat → Int32) : zl1 c S p ld = zl1 e S p ld := by
  unfold zl1
  rw [h.1]
  by_cases hb : S.testBit p = true
  · obtain ⟨e1, e2, e3, -⟩ := h.2 p hp hb
    rw [e1, e3]
  · rw [if_neg (by simp [hb]), if_neg (by simp [hb])]
theorem zld_eq {c e : ZQ5} {S : Nat} (h : cEq c e S) : ∀ (n : Nat), n ≤ 12 → ∀ ld, zld c S n ld = zld e S n ld := by
  intro n
  induction n with
  | zero => intro _ ld; rfl
  | succ n ih =>
    intro hn ld
    rw [zld, zld, zl1_eq h (by omega), ih (by omega)]
theorem zhd_eq {c e : ZQ5} {S : Nat} (hS : S < 4096) (h : cEq c e S) {p : Nat} (hp : p < 12) (hb : S.testBit p = true) : zhd c S p = zhd e S p := by
  obtain ⟨-, -, e3, -⟩ := h.2 p hp hb
  have hcl : zcl c S p = zcl e S p := by
    unfold zcl
    have key : ∀ q, (S.testBit q && (cF c).testBit q) = (S.testBit q && (cF e).testBit q) := by
      intro q
      rcases Nat.lt_or_ge q 12 with hq | hq
      · by_cases hb2 : S.testBit q = true
        · rw [(h.2 q hq hb2).2.2.2]
        · simp [hb2]
      · rw [zhi hS hq]; simp
    rw [key, key]
  unfold zhd
  rw [h.1, e3, hcl]
theorem zlz_eq {c e : ZQ5} {S : Nat} (hS : S < 4096) (h : cEq c e S) : zlz c S = zlz e S := by
  unfold zlz
  apply zmk_congr
  intro p hp
  by_cases hb : S.testBit p = true
  · have e1 : zlds c S = zlds e S := zld_eq h 12 (Nat.le_refl _) _
    rw [zhd_eq hS h hp hb, e1, (h.2 p hp hb).2.1]
  · simp [hb]
theorem stlN_eq {c e : ZQ5} : ∀ (n : Nat) {S : Nat}, S < 4096 → cEq c e S → stlN c n S = stlN e n S := by
  intro n
  induction n with
  | zero => intro S _ _; rfl
  | succ n ih =>
    intro S hS h
    rw [stlN, stlN, zlz_eq hS h]
    by_cases q : zlz e S = 0
    · rw [if_pos q, if_pos q]
    · rw [if_neg q, if_neg q]
      exact ih (zsd_lt hS) (h.sub (zsd_le hS))
theorem stl_eq {c e : ZQ5} {S : Nat} (hS : S < 4096) (h : cEq c e S) : stl c S = stl e S := stlN_eq 13 hS h
theorem stpN_eq {c e : ZQ5} : ∀ (n : Nat) {S : Nat}, S < 4096 → cEq c e S → stpN c n S = stpN e n S := by
  intro n
  induction n with
  | zero => intro S _ _; rfl
  | succ n ih =>
    intro S hS h
    rw [stpN, stpN, zlz_eq hS h]
    by_cases q : zlz e S = 0
    · rw [if_pos q, if_pos q]
    · rw [if_neg q, if_neg q, ih (zsd_lt hS) (h.sub (zsd_le hS))]
theorem stp_eq {c e : ZQ5} {S : Nat} (hS : S < 4096) (h : cEq c e S) : stp c S = stp e S := stpN_eq 13 hS h
theorem zlds_eq {c e : ZQ5} {S : Nat} (h : cEq c e S) : zlds c S = zlds e S := zld_eq h 12 (Nat.le_refl _) _
/-! the places of a load: only what is below changes -/
theorem zl1_at (c : ZQ5) (S p : Nat) (ld : Nat → Int32) {j : Nat} (hj : p ≤ j) : zl1 c S p ld j = ld j := by
  unfold zl1
  by_cases h : (S.testBit p && decide (4 ≤ p) && !(cP c).testBit p) = true
  · rw [if_pos h]
    have hp : 4 ≤ p := by
      simp only [Bool.and_eq_true, decide_eq_true_eq] at h
      exact h.1.2
    have n4 : j ≠ p - 4 := by omega
    have n3 : j ≠ p - 3 := by omega
    have n5 : j ≠ p - 5 := by omega
    split
    · exact pk_un n4
    · split
      · split
        · rw [pk_un n3, pk_un n5]
        · rfl
      · split
        · split
          · exact pk_un n5
          · split
            · exact pk_un n3
            · rfl
        · rfl
  · rw [if_neg h]
theorem zld_at (c : ZQ5) (S : Nat) : ∀ (n : Nat) (ld : Nat → Int32) {j : Nat}, n ≤ j + 1 → zld c S n ld j = ld j := by
  intro n
  induction n with
  | zero => intro ld j _; rfl
  | succ n ih =>
    intro ld j hj
    rw [zld, ih _ (by omega), zl1_at c S n ld (by omega)]
theorem zl1_congr (c : ZQ5) (S p : Nat) (hp : p < 12) {ld le : Nat → Int32} (h : ∀ j, j < 12 → ld j = le j) : ∀ j, j < 12 → zl1 c S p ld j = zl1 c S p le j := by
  intro j hj
  unfold zl1
  by_cases q : (S.testBit p && decide (4 ≤ p) && !(cP c).testBit p) = true
  · rw [if_pos q, if_pos q, h p hp, h (p - 4) (by omega), h (p - 5) (by omega), h (p - 3) (by omega)]
    have hu : ∀ (k : Nat) (x : Int32), upd ld k x j = upd le k x j := fun k x => by unfold upd; by_cases z : j = k <;> simp [z]; exact h j hj
    split
    · exact hu _ _
    · split
      · split
        · unfold upd
          split
          · rfl
          · split
            · rfl
            · exact h j hj
        · exact h j hj
      · split
        · split
          · exact hu _ _
          · split
            · exact hu _ _
            · exact h j hj
        · exact h j hj
  · rw [if_neg q, if_neg q]; exact h j hj
theorem zld_congr (c : ZQ5) (S : Nat) : ∀ (n : Nat), n ≤ 12 → ∀ {ld le : Nat → Int32}, (∀ j, j < 12 → ld j = le j) → ∀ j, j < 12 → zld c S n ld j = zld c S n le j := by
  intro n
  induction n with
  | zero => intro _ ld le h j hj; exact h j hj
  | succ n ih =>
    intro hn ld le h j hj
    rw [zld, zld]
    exact ih (by omega) (zl1_congr c S n (by omega) h) j hj
