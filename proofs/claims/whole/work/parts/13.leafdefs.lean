/-! ===== what the small methods answer, as functions of ints ===== -/
abbrev hasI (s p : Int32) : Prop := (s >>> (p &&& 31)) &&& 1 = 1
theorem zi_and1 (y : Int32) : y &&& 1 = 0 ∨ y &&& 1 = 1 := by
  obtain ⟨n, -, rfl⟩ := wb_of32 y
  rw [zi_1, fa_and, Nat.and_one_is_mod]
  rcases Nat.mod_two_eq_zero_or_one n with q | q <;> rw [q]
  · exact Or.inl rfl
  · exact Or.inr rfl
theorem hasI_0 {s p : Int32} : (s >>> (p &&& 31)) &&& 1 = 0 ↔ ¬ hasI s p := by
  unfold hasI
  rcases zi_and1 (s >>> (p &&& 31)) with q | q <;> rw [q] <;> decide
theorem hasI_iff {S p : Nat} (hS : S < 4096) (hp : p < 32) : hasI (nI S) (nI p) ↔ S.testBit p = true := by
  unfold hasI
  rw [zi_bit hS hp, zb_eq1]
def zmax (a b : Int32) : Int32 := if a ≤ b then b else a
/-- the sum of the low twelve bits -/
def bitsN (x : Int32) : Nat → Int32
  | 0 => 0
  | n + 1 => bitsN x n + ((x >>> (nI n &&& 31)) &&& 1)
def bitsI (x : Int32) : Int32 := bitsN x 12
theorem bitsN_nI {S : Nat} (hS : S < 4096) : ∀ n, n ≤ 12 → bitsN (nI S) n = nI (fb_ct (fun p => S.testBit p) n) := by
  intro n
  induction n with
  | zero => intro _; rfl
  | succ n ih =>
    intro h
    rw [bitsN, ih (by omega), zi_bit hS (by omega), fb_ct_succ, ← nI_add]
    congr 1
    unfold zb
    by_cases q : S.testBit n = true
    · rw [if_pos q, if_pos q]; rfl
    · rw [if_neg q, if_neg q]; rfl
theorem bitsI_nI {S : Nat} (hS : S < 4096) : bitsI (nI S) = nI (zpc S) := bitsN_nI hS 12 (Nat.le_refl _)
def dbI (c : Int32) : Int32 := if c = 115 then 4 else if c = 120 ∨ c = 112 then 2 else 0
def costI (k f : Int32) : Int32 := if k = 1 then 2 + f else if k = 2 then 5 else if k = 3 then 1 else if k = 4 then 5 + f else if k = 5 then 4 + 2 * f else if k = 6 then 2 else if k = 7 then 1 else 2
def noteI (w l : Int32) : Int32 := (7 * w + 3 * l) - (7 * w + 3 * l) / 50 * 50
def kindI (h : ZH) (p : Int32) : Int32 := h.1 30 0 (2 + 2 * p).toNatClampNeg
def figI (h : ZH) (p : Int32) : Int32 := h.1 30 0 (2 + 2 * p + 1).toNatClampNeg
def wgtI (k f : Int32) : Int32 := if k = 1 ∨ k = 5 then 5 + f else if k = 2 then 1 + f else if k = 3 then 1 else if k = 4 then 1 + 2 * f else if k = 6 then 2 + 2 * f else if k = 7 then 0 else 2 + f
def brsI (k f : Int32) : Int32 := if k = 1 then 40 else if k = 5 then 40 - f else if k = 2 then 12 else if k = 4 then 12 + f else if k = 3 then 3 else if k = 6 then 6 else if k = 7 then 0 else 20
abbrev lightK (k : Int32) : Prop := k = 3 ∨ k = 7
abbrev archK (k : Int32) : Prop := k = 2 ∨ k = 4
abbrev atI (s r c : Int32) : Prop := (0 ≤ c ∧ c ≤ 3) ∧ hasI s (4 * r + c)
abbrev divI (p : Int32) : Int32 := p / 4
abbrev modI (p : Int32) : Int32 := p - p / 4 * 4
abbrev leftI (s p : Int32) : Prop := atI s (divI p - 1) (modI p - 1)
abbrev rightI (s p : Int32) : Prop := atI s (divI p - 1) (modI p + 1)
abbrev clingI (h : ZH) (s p : Int32) : Prop := (atI s (divI p) (modI p - 1) ∧ ¬ lightK (kindI h (p - 1))) ∨ (atI s (divI p) (modI p + 1) ∧ ¬ lightK (kindI h (p + 1)))
abbrev heldI (h : ZH) (s p : Int32) : Prop := (p < 4 ∨ hasI (h.1 30 0 1) p ∨ hasI s (p - 4)) ∨ (if archK (kindI h p) then leftI s p ∧ rightI s p else if kindI h p = 6 then leftI s p ∨ rightI s p else lightK (kindI h p) ∧ clingI h s p)
theorem vp_12 {p : Int32} (h : vp_in p 12) : ∃ n : Nat, n < 12 ∧ p = nI n := vp_in_of h (by decide)
theorem vp_s2 {p : Int32} (h : vp_in p 12) : vp_in (2 + 2 * p) 26 := by
  obtain ⟨n, hn, rfl⟩ := vp_12 h
  have : ∀ n, n < 12 → (decide (2 + 2 * nI n < 0) || decide (26 ≤ (2 + 2 * nI n).toNatClampNeg)) = false := by decide
  exact zvp_dec (this n hn)
theorem vp_s3 {p : Int32} (h : vp_in p 12) : vp_in (2 + 2 * p + 1) 26 := by
  obtain ⟨n, hn, rfl⟩ := vp_12 h
  have : ∀ n, n < 12 → (decide (2 + 2 * nI n + 1 < 0) || decide (26 ≤ (2 + 2 * nI n + 1).toNatClampNeg)) = false := by decide
  exact zvp_dec (this n hn)
theorem vp_l {p : Int32} (h : vp_in p 12) (hc : 0 ≤ modI p - 1) : vp_in (p - 1) 12 := by
  obtain ⟨n, hn, rfl⟩ := vp_12 h
  have : ∀ n, n < 12 → 0 ≤ modI (nI n) - 1 → (decide (nI n - 1 < 0) || decide (12 ≤ (nI n - 1).toNatClampNeg)) = false := by decide
  exact zvp_dec (this n hn hc)
theorem vp_r {p : Int32} (h : vp_in p 12) (hc : modI p + 1 ≤ 3) : vp_in (p + 1) 12 := by
  obtain ⟨n, hn, rfl⟩ := vp_12 h
  have : ∀ n, n < 12 → modI (nI n) + 1 ≤ 3 → (decide (nI n + 1 < 0) || decide (12 ≤ (nI n + 1).toNatClampNeg)) = false := by decide
  exact zvp_dec (this n hn hc)
theorem vp_of8 {d : Int32} (h1 : ¬ d < 0) (h2 : ¬ 8 ≤ d) : vp_in d 8 := by
  rw [vp_in_iff]
  have h3 := (Int32.not_lt.mp h1)
  have h4 := (Int32.not_le.mp h2)
  rw [Int32.le_iff_toInt_le] at h3
  rw [Int32.lt_iff_toInt_lt] at h4
  exact ⟨h3, h4⟩
theorem vp_of12 {d : Int32} (h1 : ¬ d < 0) (h2 : ¬ 12 ≤ d) : vp_in d 12 := by
  rw [vp_in_iff]
  have h3 := (Int32.not_lt.mp h1)
  have h4 := (Int32.not_le.mp h2)
  rw [Int32.le_iff_toInt_le] at h3
  rw [Int32.lt_iff_toInt_lt] at h4
  exact ⟨h3, h4⟩
theorem ile_nlt {a b : Int32} : b ≤ a ↔ ¬ a < b := Int32.not_lt.symm
