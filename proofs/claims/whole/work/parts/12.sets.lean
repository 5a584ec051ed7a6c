/-! ===== sets of places as numbers below 4096 ===== -/
def zmk (f : Nat → Bool) : Nat → Nat
  | 0 => 0
  | n + 1 => zmk f n ||| (if f n then 2 ^ n else 0)
theorem zmk_bit (f : Nat → Bool) : ∀ (n p : Nat), (zmk f n).testBit p = (decide (p < n) && f p) := by
  intro n
  induction n with
  | zero => intro p; simp [zmk]
  | succ n ih =>
    intro p
    rw [zmk, Nat.testBit_or, ih]
    by_cases hp : p = n
    · subst hp
      cases hf : f p <;> simp
    · have : (if f n then 2 ^ n else 0).testBit p = false := by
        cases f n with
        | true => simp [Nat.testBit_two_pow]; omega
        | false => simp
      rw [this, Bool.or_false]
      congr 1
      simp only [decide_eq_decide]
      omega
theorem zmk_lt (f : Nat → Bool) : ∀ n, zmk f n < 2 ^ n := by
  intro n
  induction n with
  | zero => simp [zmk]
  | succ n ih =>
    rw [zmk]
    apply Nat.or_lt_two_pow
    · exact Nat.lt_of_lt_of_le ih (Nat.pow_le_pow_right (by decide) (by omega))
    · cases f n with
      | true => simpa using Nat.pow_lt_pow_right (a := 2) (by decide) (Nat.lt_succ_self n)
      | false => simpa using Nat.two_pow_pos (n + 1)
theorem zmk_congr {f g : Nat → Bool} : ∀ {n : Nat}, (∀ p, p < n → f p = g p) → zmk f n = zmk g n := by
  intro n
  induction n with
  | zero => intro _; rfl
  | succ n ih =>
    intro h
    rw [zmk, zmk, ih (fun p hp => h p (by omega)), h n (by omega)]
theorem zms_lt (f : Nat → Bool) : zmk f 12 < 4096 := zmk_lt f 12
theorem zms_bit (f : Nat → Bool) {p : Nat} (hp : p < 12) : (zmk f 12).testBit p = f p := by rw [zmk_bit]; simp [hp]
theorem zhi {S p : Nat} (hS : S < 4096) (hp : 12 ≤ p) : S.testBit p = false := Nat.testBit_lt_two_pow (Nat.lt_of_lt_of_le hS (show 2 ^ 12 ≤ 2 ^ p from Nat.pow_le_pow_right (by decide) hp))
theorem zs_ext {S T : Nat} (hS : S < 4096) (hT : T < 4096) (h : ∀ p, p < 12 → S.testBit p = T.testBit p) : S = T := by
  apply Nat.eq_of_testBit_eq
  intro p
  rcases Nat.lt_or_ge p 12 with q | q
  · exact h p q
  · rw [zhi hS q, zhi hT q]
/-- S without T -/
def zsd (S T : Nat) : Nat := S &&& (T ^^^ 4095)
theorem z4095 (p : Nat) : (4095 : Nat).testBit p = decide (p < 12) := by
  rw [show (4095 : Nat) = 2 ^ 12 - 1 from rfl, Nat.testBit_two_pow_sub_one]
theorem zsd_bit {S T p : Nat} (hS : S < 4096) : (zsd S T).testBit p = (S.testBit p && !T.testBit p) := by
  unfold zsd
  rw [Nat.testBit_and, Nat.testBit_xor, z4095]
  rcases Nat.lt_or_ge p 12 with q | q
  · simp [q]
  · rw [zhi hS q]; simp
theorem zsd_lt {S T : Nat} (hS : S < 4096) : zsd S T < 4096 := Nat.lt_of_le_of_lt Nat.and_le_left hS
theorem zand_lt {S T : Nat} (hS : S < 4096) : S &&& T < 4096 := Nat.lt_of_le_of_lt Nat.and_le_left hS
theorem zor_lt {S T : Nat} (hS : S < 4096) (hT : T < 4096) : S ||| T < 4096 := Nat.or_lt_two_pow (n := 12) hS hT
theorem zxor_lt {S T : Nat} (hS : S < 4096) (hT : T < 4096) : S ^^^ T < 4096 := Nat.xor_lt_two_pow (n := 12) hS hT
theorem zp_lt {p : Nat} (hp : p < 12) : 2 ^ p < 4096 := Nat.pow_lt_pow_right (a := 2) (by decide) hp
theorem zp_bit (p q : Nat) : (2 ^ p).testBit q = decide (p = q) := Nat.testBit_two_pow
/-- S lies in T -/
def zle (S T : Nat) : Prop := ∀ p, S.testBit p = true → T.testBit p = true
theorem zle_rf (S : Nat) : zle S S := fun _ h => h
theorem zle_tr {S T U : Nat} (h : zle S T) (h2 : zle T U) : zle S U := fun p q => h2 p (h p q)
theorem zsd_le {S T : Nat} (hS : S < 4096) : zle (zsd S T) S := fun p h => by rw [zsd_bit hS] at h; simp at h; exact h.1
theorem zle_and {S T : Nat} (h : zle S T) : S &&& T = S := by
  apply Nat.eq_of_testBit_eq
  intro p
  rw [Nat.testBit_and]
  rcases hp : S.testBit p with _ | _
  · rfl
  · rw [h p hp]; rfl
theorem zle_le {S T : Nat} (h : zle S T) : S ≤ T := by
  rw [← zle_and h]
  exact Nat.and_le_right
theorem zle_lt {S T : Nat} (h : zle S T) (hT : T < 4096) : S < 4096 := Nat.lt_of_le_of_lt (zle_le h) hT
theorem zle_as {S T : Nat} (h : zle S T) (h2 : zle T S) : S = T := by
  apply Nat.eq_of_testBit_eq
  intro p
  rcases hp : S.testBit p with _ | _
  · rcases hq : T.testBit p with _ | _
    · rfl
    · exact absurd (h2 p hq) (by rw [hp]; decide)
  · exact (h p hp).symm
/-- how many places -/
def zpc (S : Nat) : Nat := fb_ct (fun p => S.testBit p) 12
theorem zpc_le (S : Nat) : zpc S ≤ 12 := fb_ct_le _ 12
theorem zpc_mono {S T : Nat} (h : zle S T) : zpc S ≤ zpc T := fb_ct_sub (fun k _ q => h k q)
theorem zpc_0 : zpc 0 = 0 := by decide
theorem zpc_eq0 {S : Nat} (hS : S < 4096) : zpc S = 0 ↔ S = 0 := by
  unfold zpc
  rw [fb_ct_zero]
  constructor
  · intro h
    exact zs_ext hS (by decide) (fun p hp => by rw [h p hp]; simp)
  · intro h k _
    rw [h]; simp
theorem zpc_lt {S T : Nat} (h : zle S T) (hS : S < 4096) (hT : T < 4096) (hn : S ≠ T) : zpc S < zpc T := by
  have hu : fb_ct (fun p => S.testBit p || (zsd T S).testBit p) 12 = zpc S + zpc (zsd T S) := fb_ct_or (fun k _ q => by
    obtain ⟨q1, q2⟩ := q
    rw [zsd_bit hT] at q2
    simp [q1] at q2)
  have e : fb_ct (fun p => S.testBit p || (zsd T S).testBit p) 12 = zpc T := fb_ct_cong (fun k hk => by
    show (S.testBit k || (zsd T S).testBit k) = T.testBit k
    rw [zsd_bit hT]
    rcases hp : S.testBit k with _ | _
    · simp
    · simp [h k hp])
  have hd : zpc (zsd T S) ≠ 0 := by
    rw [Ne, zpc_eq0 (zsd_lt hT)]
    intro q
    apply hn
    apply zle_as h
    intro p hp
    rcases hs : S.testBit p with _ | _
    · have : (zsd T S).testBit p = true := by rw [zsd_bit hT, hp, hs]; rfl
      rw [q] at this
      simp at this
    · rfl
  omega
theorem zpc_sub {S T : Nat} (h : zle S T) (hT : T < 4096) : zpc T = zpc S + zpc (zsd T S) := by
  have hu : fb_ct (fun p => S.testBit p || (zsd T S).testBit p) 12 = zpc S + zpc (zsd T S) := fb_ct_or (fun k _ q => by
    obtain ⟨q1, q2⟩ := q
    rw [zsd_bit hT] at q2
    simp [q1] at q2)
  have e : fb_ct (fun p => S.testBit p || (zsd T S).testBit p) 12 = zpc T := fb_ct_cong (fun k hk => by
    show (S.testBit k || (zsd T S).testBit k) = T.testBit k
    rw [zsd_bit hT]
    rcases hp : S.testBit k with _ | _
    · simp
    · simp [h k hp])
  omega
/-! ===== and as ints ===== -/
theorem zi_sh {p : Nat} (hp : p < 12) : (1 : Int32) <<< (nI p &&& 31) = nI (2 ^ p) := by
  have : ∀ p, p < 12 → (1 : Int32) <<< (nI p &&& 31) = nI (2 ^ p) := by decide
  exact this p hp
theorem zi_m1 : (-1 : Int32) = nI 4294967295 := by decide
theorem zi_not {S T : Nat} (hS : S < 4096) : nI S &&& (nI T ^^^ (-1)) = nI (zsd S T) := by
  rw [zi_m1, fb_xorI, fa_and]
  congr 1
  apply Nat.eq_of_testBit_eq
  intro p
  unfold zsd
  rw [Nat.testBit_and, Nat.testBit_and, Nat.testBit_xor, Nat.testBit_xor, z4095, show (4294967295 : Nat) = 2 ^ 32 - 1 from rfl, Nat.testBit_two_pow_sub_one]
  rcases Nat.lt_or_ge p 12 with q | q
  · simp [q, show p < 32 by omega]
  · rw [zhi hS q]; simp
theorem zi_and (S T : Nat) : nI S &&& nI T = nI (S &&& T) := fa_and S T
theorem zi_or (S T : Nat) : nI S ||| nI T = nI (S ||| T) := fa_or S T
theorem zi_bt {m i : Nat} (hi : i < 32) : bt (nI m) i = m.testBit i := by
  show (BitVec.ofNat 32 m).getLsbD i = _
  rw [BitVec.getLsbD_ofNat]
  simp [hi]
theorem zi_shr {S p : Nat} (hS : S < 2 ^ 31) (hp : p < 32) : nI S >>> (nI p &&& 31) = nI (S >>> p) := by
  apply b_ext
  intro i hi
  rw [b_sshr p hp _ hi, zi_bt hi, Nat.testBit_shiftRight]
  by_cases h : p + i < 32
  · rw [if_pos h, zi_bt h]
  · rw [if_neg h, zi_bt (by decide)]
    rw [Nat.testBit_lt_two_pow hS, Nat.testBit_lt_two_pow (Nat.lt_of_lt_of_le hS (Nat.pow_le_pow_right (by decide) (by omega)))]
theorem zi_1 : (1 : Int32) = nI 1 := by decide
theorem zi_0 : (0 : Int32) = nI 0 := by decide
theorem zi_inj {a b : Nat} (ha : a < 4096) (hb : b < 4096) : nI a = nI b ↔ a = b := nI_eq (by omega) (by omega)
theorem zi_bit {S p : Nat} (hS : S < 4096) (hp : p < 32) : (nI S >>> (nI p &&& 31)) &&& 1 = zb (S.testBit p = true) := by
  rw [zi_shr (by omega) hp, zi_1, fa_and]
  have e : S >>> p &&& 1 = if S.testBit p = true then 1 else 0 := by
    rw [Nat.and_one_is_mod, Nat.shiftRight_eq_div_pow, Nat.testBit_eq_decide_div_mod_eq]
    rcases Nat.mod_two_eq_zero_or_one (S / 2 ^ p) with q | q <;> rw [q] <;> simp
  rw [e]
  unfold zb
  by_cases h : S.testBit p = true
  · rw [if_pos h, if_pos h]; rfl
  · rw [if_neg h, if_neg h]; rfl
theorem zi_band {S p : Nat} (hp : p < 12) : nI S &&& nI (2 ^ p) = 0 ↔ S.testBit p = false := fa_bit (by omega)
