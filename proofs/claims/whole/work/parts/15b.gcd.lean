/-! ===== the two ways to the greatest common divisor ===== -/
theorem lN_q {a b : Nat} (ha : a < 2 ^ 62) (hb : b < 2 ^ 62) (h0 : b ≠ 0) : lN a / lN b = lN (a / b) := by
  apply Int64.toInt_inj.mp
  rw [Int64.toInt_div, pf_lI (by omega), pf_lI (by omega), pf_lI (Nat.lt_of_le_of_lt (Nat.div_le_self a b) (by omega))]
  have e : (a : Int).tdiv (b : Int) = ((a / b : Nat) : Int) := by
    rw [Int.tdiv_eq_ediv_of_nonneg (by omega)]; rfl
  rw [e]
  have h1 : a / b < 2 ^ 62 := Nat.lt_of_le_of_lt (Nat.div_le_self a b) ha
  generalize a / b = q at h1 ⊢
  exact fb_bmodL (by omega) (by omega)
theorem lN_rem {a b : Nat} (ha : a < 2 ^ 62) (hb : b < 2 ^ 62) (h0 : b ≠ 0) : lN a - lN a / lN b * lN b = lN (a % b) := by
  rw [lN_q ha hb h0, lN_mul, lN_sub (Nat.div_mul_le_self a b)]
  congr 1
  have := Nat.div_add_mod a b
  rw [Nat.mul_comm] at this
  omega
theorem lN_eq0 {a : Nat} (ha : a < 2 ^ 62) : lN a = 0 ↔ a = 0 := by
  have : (0 : Int64) = lN 0 := by decide
  rw [this, fb_lN_inj (by omega) (by decide)]
theorem lg_0 {a : Nat} (ha : a < 2 ^ 62) : lg_cmp (lN a) 0 = 0 ↔ a = 0 := by
  unfold lg_cmp
  by_cases h : lN a > 0
  · rw [if_pos h]
    constructor
    · intro q; exact absurd q (by decide)
    · intro q; subst q; exact absurd h (by decide)
  · rw [if_neg h]
    by_cases h2 : lN a = 0
    · rw [if_pos h2]; simp [(lN_eq0 ha).mp h2]
    · rw [if_neg h2]
      constructor
      · intro q; exact absurd q (by decide)
      · intro q; exact absurd ((lN_eq0 ha).mpr q) h2
theorem zhalf {l r : Nat} (h : r < l) (h0 : r ≠ 0) : 2 * (l % r) < l := by
  rcases Nat.lt_or_ge l (2 * r) with q | q
  · have : l % r = l - r := by
      rw [Nat.mod_eq_sub_mod (by omega), Nat.mod_eq_of_lt (by omega)]
    omega
  · have := Nat.mod_lt l (show 0 < r by omega)
    omega
theorem sX11_commonDivisor {G : ZG} (d : Nat) {h : ZH} {a b : Nat} (ha : a < 2 ^ 62) (hb : b < 2 ^ 62) : zC G (d + 1) mX11_commonDivisor [zl (lN a), zl (lN b)] h (fun r h' => r = some (zl (lN (Nat.gcd a b))) ∧ h' = h) := by
  refine zC_of (by decide +kernel) (Nat.le_of_ble_eq_true rfl) (L := [zl (lN a), zu, zl (lN b), zu, zu, zu, zu, zu, zu, zu, zu]) ⟨rfl, ⟨rfl, trivial⟩⟩ ?_
  refine wX11_commonDivisor_0 ?_
  have key : ∀ (k g l t : Nat), l < 2 ^ k → t + 2 * k ≤ 200 → g < 2 ^ 62 → l < 2 ^ 62 → zT G (d + 1) mX11_commonDivisor 9 [zl (lN a), zu, zl (lN b), zu, zl (lN g), zu, zl (lN l), zu, zi (nI t), zu, zu] [] h (fun r h' => r = some (zl (lN (Nat.gcd l g))) ∧ h' = h) := by
    intro k
    induction k with
    | zero =>
      intro g l t hl ht hg hl2
      have e : l = 0 := by simpa using hl
      subst e
      refine wX11_commonDivisor_9 ?_
      rw [Nat.gcd_zero_left]
      refine br_c (fun _ => ⟨rfl, rfl⟩) (fun _ => br_t ((lg_0 (by omega)).mpr rfl) ⟨rfl, rfl⟩)
    | succ k ih =>
      intro g l t hl ht hg hl2
      refine wX11_commonDivisor_9 ?_
      by_cases h0 : l = 0
      · subst h0
        rw [Nat.gcd_zero_left]
        refine br_c (fun _ => ⟨rfl, rfl⟩) (fun _ => br_t ((lg_0 (by omega)).mpr rfl) ⟨rfl, rfl⟩)
      · refine br_f (nI_ge (a := t) (b := 200) (by omega) (by decide)) (br_f (fun q => h0 ((lg_0 hl2).mp q)) ⟨fun q => h0 ((lN_eq0 hl2).mp q), ?_⟩)
        rw [lN_rem hg hl2 h0, nI_1, Nat.gcd_rec l g]
        have hr : g % l < l := Nat.mod_lt g (by omega)
        refine wX11_commonDivisor_9 ?_
        by_cases h1 : g % l = 0
        · rw [h1, Nat.gcd_zero_left]
          refine br_c (fun _ => ⟨rfl, rfl⟩) (fun _ => br_t ((lg_0 (by omega)).mpr rfl) ⟨rfl, rfl⟩)
        · refine br_f (nI_ge (a := t + 1) (b := 200) (by omega) (by decide)) (br_f (fun q => h1 ((lg_0 (by omega)).mp q)) ⟨fun q => h1 ((lN_eq0 (by omega)).mp q), ?_⟩)
          rw [lN_rem hl2 (by omega) h1, nI_1, Nat.gcd_rec (g % l) l]
          have h2 := zhalf hr h1
          have h3 : 2 ^ (k + 1) = 2 * 2 ^ k := by rw [Nat.pow_succ]; omega
          exact ih (g % l) (l % (g % l)) (t + 1 + 1) (by omega) (by omega) (by omega) (by omega)
  exact key 62 b a 0 (by omega) (by decide) hb ha
theorem sX12_gcd {G : ZG} (d : Nat) {h : ZH} {a b : Nat} (ha : a < 2 ^ 62) (hb : b < 2 ^ 62) : zC G (d + 1) mX12_gcd [zl (lN a), zl (lN b)] h (fun r h' => r = some (zl (lN (Nat.gcd a b))) ∧ h' = h) := by
  refine zC_of (by decide +kernel) (Nat.le_of_ble_eq_true rfl) (L := [zl (lN a), zu, zl (lN b), zu, zu, zu, zu, zu, zu, zu]) ⟨rfl, ⟨rfl, trivial⟩⟩ ?_
  refine wX12_gcd_0 ?_
  have key : ∀ (n x y : Nat), y ≤ n → x < 2 ^ 62 → y < 2 ^ 62 → zT G (d + 1) mX12_gcd 6 [zl (lN a), zu, zl (lN b), zu, zl (lN x), zu, zl (lN y), zu, zu, zu] [] h (fun r h' => r = some (zl (lN (Nat.gcd y x))) ∧ h' = h) := by
    intro n
    induction n with
    | zero =>
      intro x y hy hx hy2
      have e : y = 0 := by omega
      subst e
      refine wX12_gcd_6 ?_
      rw [Nat.gcd_zero_left]
      exact br_t ((lg_0 (by omega)).mpr rfl) ⟨rfl, rfl⟩
    | succ n ih =>
      intro x y hy hx hy2
      refine wX12_gcd_6 ?_
      by_cases h0 : y = 0
      · subst h0
        rw [Nat.gcd_zero_left]
        exact br_t ((lg_0 (by omega)).mpr rfl) ⟨rfl, rfl⟩
      · refine br_f (fun q => h0 ((lg_0 hy2).mp q)) ⟨fun q => h0 ((lN_eq0 hy2).mp q), ?_⟩
        rw [lN_rem hx hy2 h0, Nat.gcd_rec y x]
        have hr : x % y < y := Nat.mod_lt x (by omega)
        exact ih y (x % y) (by omega) hy2 (by omega)
  have := key b a b (Nat.le_refl _) ha hb
  rw [Nat.gcd_comm] at this
  exact this
