/-! ===== lean, highest, cost, both sides ===== -/
def colV (e : ZQ5) (S col : Nat) : Int32 := sumP (fun p => if p % 4 = col ∧ S.testBit p = true then cW e p else 0) 12
theorem sumP_eq {f g : Nat → Int32} : ∀ {n : Nat}, (∀ p, p < n → f p = g p) → sumP f n = sumP g n := by
  intro n
  induction n with
  | zero => intro _; rfl
  | succ n ih => intro h; rw [sumP, sumP, ih (fun p hp => h p (by omega)), h n (by omega)]
theorem c273 {col : Nat} (hc : col < 4) : (273 : Int32) <<< (nI col &&& 31) = nI (273 * 2 ^ col) := by
  have : ∀ col, col < 4 → (273 : Int32) <<< (nI col &&& 31) = nI (273 * 2 ^ col) := by decide
  exact this col hc
theorem c273b {col p : Nat} (hc : col < 4) (hp : p < 12) : (273 * 2 ^ col).testBit p = decide (p % 4 = col) := by
  have : ∀ col, col < 4 → ∀ p, p < 12 → (273 * 2 ^ col).testBit p = decide (p % 4 = col) := by decide
  exact this col hc p hp
theorem jX4_columnWeight {G : ZG} (d : Nat) {h : ZH} {S col : Nat} {c e : ZQ5} {N : ZN} (j : JX h S c e N) (hc : col < 4) : zC G (d + 3) mX4_columnWeight [zr 2 0, zi (nI col)] h (fun r h' => r = some (zi (colV e S col)) ∧ h' = h) := by
  refine zC_of (by decide +kernel) (Nat.le_of_ble_eq_true rfl) (L := [zr 2 0, zi (nI col), zu]) ⟨rfl, ⟨rfl, trivial⟩⟩ ?_
  refine wX4_columnWeight_0 (by decide) ?_
  rw [j.st6, c273 hc, zi_and]
  refine zC_mono (jX4_weightOf d j (T := S &&& 273 * 2 ^ col) ?_) ?_
  · intro p hp
    rw [Nat.testBit_and, Bool.and_eq_true] at hp
    exact hp.1
  · rintro r h' ⟨rfl, rfl⟩
    refine ⟨_, rfl, ?_, rfl⟩
    have : sumP (wIn e (S &&& 273 * 2 ^ col)) 12 = colV e S col := by
      unfold colV
      refine sumP_eq fun p hp => ?_
      unfold wIn
      rw [Nat.testBit_and, c273b hc hp]
      by_cases z : p % 4 = col
      · simp [z]
      · simp [z]
    rw [this]
theorem colV_3 (e : ZQ5) (S : Nat) {col : Nat} (hc : col < 4) : colV e S col = ((0 + wIn e S col) + wIn e S (col + 4)) + wIn e S (col + 8) := by
  have c4 : col = 0 ∨ col = 1 ∨ col = 2 ∨ col = 3 := by omega
  unfold colV wIn
  rcases c4 with rfl | rfl | rfl | rfl <;> simp [sumP]
theorem jX12_columnOf {G : ZG} (d : Nat) {h : ZH} {S col : Nat} {c e : ZQ5} {N : ZN} (j : JX h S c e N) (hc : col < 4) : zC G (d + 3) mX12_columnOf [zr 5 0, zi (nI col)] h (fun r h' => r = some (zi (colV e S col)) ∧ h' = h) := by
  refine zC_of (by decide +kernel) (Nat.le_of_ble_eq_true rfl) (L := [zr 5 0, zi (nI col), zu, zu]) ⟨rfl, ⟨rfl, trivial⟩⟩ ?_
  refine wX12_columnOf_0 ?_
  have step : ∀ (p : Nat) (v : Int32) (Q : Option ZV → ZH → Prop), p < 12 → zT G (d + 3) mX12_columnOf 4 [zr 5 0, zi (nI col), zi (v + wIn e S p), zi (nI (p + 4))] [] h Q → zT G (d + 3) mX12_columnOf 4 [zr 5 0, zi (nI col), zi v, zi (nI p)] [] h Q := by
    intro p v Q hp k
    refine wX12_columnOf_4 ?_
    refine br_f (nI_ge (a := p) (b := 12) (by omega) (by decide)) ?_
    rw [j.m0, hasI_iff j.lt (show p < 32 by omega), show (4 : Int32) = nI 4 from by decide, nI_add]
    refine ⟨fun t => ?_, fun t => ⟨vpn hp (by decide), ?_⟩⟩
    · rw [show wIn e S p = 0 from if_neg t] at k
      exact k
    · rw [show wIn e S p = cW e p from if_pos t, ← j.wk hp t] at k
      exact k
  refine step col 0 _ (by omega) (step (col + 4) _ _ (by omega) (step (col + 8) _ _ (by omega) ?_))
  refine wX12_columnOf_4 ?_
  have g : (12 : Int32) ≤ nI (col + 8 + 4) := by
    have : ∀ c, c < 4 → (12 : Int32) ≤ nI (c + 8 + 4) := by decide
    exact this col hc
  exact br_t g ⟨by rw [colV_3 e S hc], rfl⟩
def heavN (e : ZQ5) (S : Nat) : Nat → Nat
  | 0 => 0
  | n + 1 => if colV e S (heavN e S n) < colV e S (n + 1) then n + 1 else heavN e S n
theorem heavN_le (e : ZQ5) (S : Nat) : ∀ n, heavN e S n ≤ n := by
  intro n
  induction n with
  | zero => exact Nat.le_refl _
  | succ n ih => rw [heavN]; split <;> omega
def leanV (e : ZQ5) (S : Nat) (w : Int32) : Int32 := if 0 ≤ w ∧ w ≤ 1 then (if w = 0 then ((colV e S 0 + colV e S 1) - colV e S 2) - colV e S 3 else nI (heavN e S 3)) else 1000000001
theorem pX11_lean {G : ZG} (d : Nat) {h : ZH} {S : Nat} {c e : ZQ5} {N : ZN} (j : JX h S c e N) (w : Int32) : zC G (d + 5) mX11_lean [zr 0 0, zi w] h (zJ S c e N (leanV e S w)) := by
  refine zC_of (by decide +kernel) (Nat.le_of_ble_eq_true rfl) (L := [zr 0 0, zi w]) ⟨rfl, ⟨rfl, trivial⟩⟩ ?_
  refine wX11_lean_0 ?_
  unfold leanV
  refine ⟨fun a => ⟨fun z => ?_, fun z => ?_⟩, fun a => ⟨by rw [if_neg a], j⟩⟩
  · rw [if_pos a, if_neg z]
    have hc : zC G (d + 4) mX4_heaviestColumn [zr 2 0] h (fun r h' => r = some (zi (nI (heavN e S 3))) ∧ h' = h) := by
      refine zC_of (by decide +kernel) (Nat.le_of_ble_eq_true rfl) (L := [zr 2 0, zu, zu]) ⟨rfl, trivial⟩ ?_
      refine wX4_heaviestColumn_0 (by decide) ?_
      have key : ∀ (f n : Nat), f + n = 3 → zT G (d + 4) mX4_heaviestColumn 4 [zr 2 0, zi (nI (heavN e S n)), zi (nI (n + 1))] [] h (fun r h' => r = some (zi (nI (heavN e S 3))) ∧ h' = h) := by
        intro f
        induction f with
        | zero =>
          intro n hn
          have e : n = 3 := by omega
          subst e
          refine wX4_heaviestColumn_4 (by decide) ?_
          exact br_t (by decide) ⟨rfl, rfl⟩
        | succ f ih =>
          intro n hn
          have hl := heavN_le e S n
          refine wX4_heaviestColumn_4 (by decide) ?_
          refine br_f (nI_ge (a := n + 1) (b := 4) (by omega) (by decide)) ?_
          refine zC_mono (jX4_columnWeight d j (show n + 1 < 4 by omega)) ?_
          rintro r h1 ⟨rfl, rfl⟩
          refine ⟨_, rfl, ?_⟩
          refine zC_mono (jX4_columnWeight d j (show heavN e S n < 4 by omega)) ?_
          rintro r h2 ⟨rfl, rfl⟩
          refine ⟨_, rfl, ?_⟩
          have IH := ih (n + 1) (by omega)
          rw [nI_1]
          rw [heavN] at IH
          refine ⟨fun q => ?_, fun q => ?_⟩
          · rw [if_neg (Int32.not_lt.mpr q)] at IH
            exact IH
          · rw [if_pos (Int32.not_le.mp q)] at IH
            exact IH
      exact key 3 0 (by omega)
    refine zC_mono hc ?_
    rintro r h1 ⟨rfl, rfl⟩
    exact ⟨_, rfl, rfl, j⟩
  · rw [if_pos a, if_pos z]
    have lr : zC G (d + 4) mX4_leftOverRight [zr 2 0] h (fun r h' => r = some (zi (((colV e S 0 + colV e S 1) - colV e S 2) - colV e S 3)) ∧ h' = h) := by
      refine zC_of (by decide +kernel) (Nat.le_of_ble_eq_true rfl) (L := [zr 2 0]) ⟨rfl, trivial⟩ ?_
      refine wX4_leftOverRight_0 (by decide) ?_
      refine zC_mono (jX4_columnWeight (col := 0) d j (by decide)) ?_
      rintro r h1 ⟨rfl, rfl⟩
      refine ⟨_, rfl, ?_⟩
      refine zC_mono (jX4_columnWeight (col := 1) d j (by decide)) ?_
      rintro r h1 ⟨rfl, rfl⟩
      refine ⟨_, rfl, ?_⟩
      refine zC_mono (jX4_columnWeight (col := 2) d j (by decide)) ?_
      rintro r h1 ⟨rfl, rfl⟩
      refine ⟨_, rfl, ?_⟩
      refine zC_mono (jX4_columnWeight (col := 3) d j (by decide)) ?_
      rintro r h1 ⟨rfl, rfl⟩
      exact ⟨_, rfl, rfl, rfl⟩
    refine zC_mono lr ?_
    rintro r h1 ⟨rfl, rfl⟩
    exact ⟨_, rfl, rfl, j⟩
theorem pX12_lean {G : ZG} (d : Nat) {h : ZH} {S : Nat} {c e : ZQ5} {N : ZN} (j : JX h S c e N) (w : Int32) : zC G (d + 4) mX12_lean [zr 5 0, zi w] h (zJ S c e N (leanV e S w)) := by
  refine zC_of (by decide +kernel) (Nat.le_of_ble_eq_true rfl) (L := [zr 5 0, zi w, zu, zu]) ⟨rfl, ⟨rfl, trivial⟩⟩ ?_
  refine wX12_lean_0 ?_
  unfold leanV
  refine ⟨fun a => ⟨fun z => ?_, fun z => ?_⟩, fun a => ⟨by rw [if_neg a], j⟩⟩
  · rw [if_pos a, if_neg z]
    have key : ∀ (f n : Nat), f + n = 3 → zT G (d + 4) mX12_lean 44 [zr 5 0, zi w, zi (nI (heavN e S n)), zi (nI (n + 1))] [] h (zJ S c e N (nI (heavN e S 3))) := by
      intro f
      induction f with
      | zero =>
        intro n hn
        have e : n = 3 := by omega
        subst e
        refine wX12_lean_44 ?_
        exact br_t (by decide) ⟨rfl, j⟩
      | succ f ih =>
        intro n hn
        have hl := heavN_le e S n
        refine wX12_lean_44 ?_
        refine br_f (nI_ge (a := n + 1) (b := 4) (by omega) (by decide)) ?_
        refine zC_mono (jX12_columnOf d j (show n + 1 < 4 by omega)) ?_
        rintro r h1 ⟨rfl, rfl⟩
        refine ⟨_, rfl, ?_⟩
        refine zC_mono (jX12_columnOf d j (show heavN e S n < 4 by omega)) ?_
        rintro r h2 ⟨rfl, rfl⟩
        refine ⟨_, rfl, ?_⟩
        have IH := ih (n + 1) (by omega)
        rw [nI_1]
        rw [heavN] at IH
        refine ⟨fun q => ?_, fun q => ?_⟩
        · rw [if_neg (Int32.not_lt.mpr q)] at IH
          exact IH
        · rw [if_pos (Int32.not_le.mp q)] at IH
          exact IH
    exact key 3 0 (by omega)
  · rw [if_pos a, if_pos z]
    refine zC_mono (jX12_columnOf (col := 0) d j (by decide)) ?_
    rintro r h1 ⟨rfl, rfl⟩
    refine ⟨_, rfl, ?_⟩
    refine zC_mono (jX12_columnOf (col := 1) d j (by decide)) ?_
    rintro r h1 ⟨rfl, rfl⟩
    refine ⟨_, rfl, ?_⟩
    refine zC_mono (jX12_columnOf (col := 2) d j (by decide)) ?_
    rintro r h1 ⟨rfl, rfl⟩
    refine ⟨_, rfl, ?_⟩
    refine zC_mono (jX12_columnOf (col := 3) d j (by decide)) ?_
    rintro r h1 ⟨rfl, rfl⟩
    exact ⟨_, rfl, rfl, j⟩
/-- the highest row, 0 where there is none: r + 1 -/
def hrow (S : Nat) : Nat → Nat
  | 0 => 0
  | n + 1 => if S.testBit n = true then n / 4 + 1 else hrow S n
def mrow (S : Nat) : Nat → Nat
  | 0 => 0
  | n + 1 => if zpcF ((S >>> (4 * n)) &&& 15) = 0 then mrow S n else n + 1
theorem nib0 {S n : Nat} : zpc ((S >>> (4 * n)) &&& 15) = 0 ↔ (S.testBit (4 * n) = false ∧ S.testBit (4 * n + 1) = false ∧ S.testBit (4 * n + 2) = false ∧ S.testBit (4 * n + 3) = false) := by
  have lt : (S >>> (4 * n)) &&& 15 < 4096 := Nat.lt_of_le_of_lt Nat.and_le_right (by decide)
  have b : ∀ i, i < 4 → ((S >>> (4 * n)) &&& 15).testBit i = S.testBit (4 * n + i) := by
    intro i hi
    rw [Nat.testBit_and, Nat.testBit_shiftRight]
    have : ∀ i, i < 4 → (15 : Nat).testBit i = true := by decide
    rw [this i hi, Bool.and_true]
  rw [zpc_eq0 lt]
  constructor
  · intro h
    have q : ∀ i, i < 4 → S.testBit (4 * n + i) = false := fun i hi => by
      rw [← b i hi, h, Nat.zero_testBit]
    exact ⟨q 0 (by decide), q 1 (by decide), q 2 (by decide), q 3 (by decide)⟩
  · rintro ⟨q0, q1, q2, q3⟩
    refine zs_ext lt (by decide) fun p hp => ?_
    rw [Nat.zero_testBit]
    by_cases z : p < 4
    · rw [b p z]
      have : p = 0 ∨ p = 1 ∨ p = 2 ∨ p = 3 := by omega
      rcases this with rfl | rfl | rfl | rfl
      · exact q0
      · exact q1
      · exact q2
      · exact q3
    · rw [Nat.testBit_and]
      have : ∀ p, p < 12 → ¬ p < 4 → (15 : Nat).testBit p = false := by decide
      rw [this p hp z, Bool.and_false]
theorem row_n (S : Nat) : ∀ n, hrow S (4 * n) = mrow S n := by
  intro n
  induction n with
  | zero => rfl
  | succ n ih =>
    have e : hrow S (4 * (n + 1)) = (if S.testBit (4 * n + 3) = true then (4 * n + 3) / 4 + 1 else if S.testBit (4 * n + 2) = true then (4 * n + 2) / 4 + 1 else if S.testBit (4 * n + 1) = true then (4 * n + 1) / 4 + 1 else if S.testBit (4 * n) = true then (4 * n) / 4 + 1 else hrow S (4 * n)) := rfl
    have m : mrow S (n + 1) = (if zpc ((S >>> (4 * n)) &&& 15) = 0 then mrow S n else n + 1) := rfl
    rw [e, m, ih]
    have d3 : (4 * n + 3) / 4 = n := by omega
    have d2 : (4 * n + 2) / 4 = n := by omega
    have d1 : (4 * n + 1) / 4 = n := by omega
    have d0 : (4 * n) / 4 = n := by omega
    rw [d3, d2, d1, d0]
    by_cases z : zpc ((S >>> (4 * n)) &&& 15) = 0
    · obtain ⟨q0, q1, q2, q3⟩ := nib0.mp z
      rw [if_pos z, if_neg (by simp [q3]), if_neg (by simp [q2]), if_neg (by simp [q1]), if_neg (by simp [q0])]
    · rw [if_neg z]
      by_cases b3 : S.testBit (4 * n + 3) = true
      · rw [if_pos b3]
      · rw [if_neg b3]
        by_cases b2 : S.testBit (4 * n + 2) = true
        · rw [if_pos b2]
        · rw [if_neg b2]
          by_cases b1 : S.testBit (4 * n + 1) = true
          · rw [if_pos b1]
          · rw [if_neg b1]
            by_cases b0 : S.testBit (4 * n) = true
            · rw [if_pos b0]
            · exact absurd (nib0.mpr ⟨eq_false_of_ne_true b0, eq_false_of_ne_true b1, eq_false_of_ne_true b2, eq_false_of_ne_true b3⟩) z
theorem row_eq {S : Nat} (_hS : S < 4096) : hrow S 12 = mrow S 3 := row_n S 3
theorem in_eq {S r : Nat} (_hS : S < 4096) (hr : r < 3) : zpc (S &&& (15 * 2 ^ (4 * r))) = zpc ((S >>> (4 * r)) &&& 15) := by
  have ma : ∀ r, r < 3 → ∀ p, p < 12 → (15 * 2 ^ (4 * r)).testBit p = decide (4 * r ≤ p ∧ p < 4 * r + 4) := by decide
  have mb : ∀ p, p < 12 → (15 : Nat).testBit p = decide (p < 4) := by decide
  have ea : zpc (S &&& (15 * 2 ^ (4 * r))) = fb_ct (fun p => S.testBit p && decide (4 * r ≤ p ∧ p < 4 * r + 4)) 12 := fb_ct_cong fun p hp => by rw [Nat.testBit_and, ma r hr p hp]
  have eb : zpc ((S >>> (4 * r)) &&& 15) = fb_ct (fun p => S.testBit (4 * r + p) && decide (p < 4)) 12 := fb_ct_cong fun p hp => by rw [Nat.testBit_and, Nat.testBit_shiftRight, mb p hp]
  rw [ea, eb]
  have s1 : ∀ q : Nat → Bool, fb_ct q 12 = fb_ct q (4 * r) + (fb_ct (fun k => q (4 * r + k)) 4 + fb_ct (fun k => q (4 * r + (4 + k))) (8 - 4 * r)) := by
    intro q
    have : 12 = 4 * r + (4 + (8 - 4 * r)) := by omega
    rw [← fb_ct_split (fun k => q (4 * r + k)) 4, ← fb_ct_split q (4 * r), ← this]
  have s2 : ∀ q : Nat → Bool, fb_ct q 12 = fb_ct q 4 + fb_ct (fun k => q (4 + k)) 8 := fun q => fb_ct_split q 4 8
  rw [s1, s2]
  have z1 : fb_ct (fun p => S.testBit p && decide (4 * r ≤ p ∧ p < 4 * r + 4)) (4 * r) = 0 := fb_ct_zero.mpr fun k hk => by
    have : ¬ (4 * r ≤ k ∧ k < 4 * r + 4) := by omega
    simp [this]
  have z2 : fb_ct (fun k => S.testBit (4 * r + (4 + k)) && decide (4 * r ≤ 4 * r + (4 + k) ∧ 4 * r + (4 + k) < 4 * r + 4)) (8 - 4 * r) = 0 := fb_ct_zero.mpr fun k hk => by
    have : ¬ (4 * r ≤ 4 * r + (4 + k) ∧ 4 * r + (4 + k) < 4 * r + 4) := by omega
    simp [this]
  have z3 : fb_ct (fun k => S.testBit (4 * r + (4 + k)) && decide (4 + k < 4)) 8 = 0 := fb_ct_zero.mpr fun k hk => by
    have : ¬ (4 + k < 4) := by omega
    simp [this]
  have z4 : fb_ct (fun k => S.testBit (4 * r + k) && decide (4 * r ≤ 4 * r + k ∧ 4 * r + k < 4 * r + 4)) 4 = fb_ct (fun p => S.testBit (4 * r + p) && decide (p < 4)) 4 := fb_ct_cong fun k hk => by
    have a1 : (4 * r ≤ 4 * r + k ∧ 4 * r + k < 4 * r + 4) := by omega
    simp [a1, hk]
  rw [z1, z2, z3, z4]
  omega
def hiV (S : Nat) (w : Int32) : Int32 := if 0 ≤ w ∧ w ≤ 1 then (match hrow S 12 with
  | 0 => -4
  | r + 1 => if w = 0 then nI r else nI (zpc ((S >>> (4 * r)) &&& 15))) else -1
def rowV : Nat → Int32
  | 0 => -4
  | r + 1 => nI r
theorem hrow_le (S : Nat) : ∀ n, n ≤ 12 → hrow S n ≤ 3 := by
  intro n
  induction n with
  | zero => intro _; exact Nat.zero_le _
  | succ n ih => intro h; rw [hrow]; split
                 · omega
                 · exact ih (by omega)
theorem jX4_highestRow {G : ZG} (d : Nat) {h : ZH} {S : Nat} {c e : ZQ5} {N : ZN} (j : JX h S c e N) : zC G (d + 3) mX4_highestRow [zr 2 0] h (fun r h' => r = some (zi (rowV (hrow S 12))) ∧ h' = h) := by
  refine zC_of (by decide +kernel) (Nat.le_of_ble_eq_true rfl) (L := [zr 2 0, zu]) ⟨rfl, trivial⟩ ?_
  refine wX4_highestRow_0 (by decide) ?_
  have key : ∀ (n : Nat), n ≤ 12 → hrow S 12 = hrow S n → zT G (d + 3) mX4_highestRow 3 [zr 2 0, zi (nI n + (-1))] [] h (fun r h' => r = some (zi (rowV (hrow S 12))) ∧ h' = h) := by
    intro n
    induction n with
    | zero =>
      intro _ hn
      refine wX4_highestRow_3 (by decide) ?_
      refine br_t (by decide) ⟨?_, rfl⟩
      rw [hn]; rfl
    | succ n ih =>
      intro hn he
      rw [zx_m1]
      refine wX4_highestRow_3 (by decide) ?_
      refine br_f (n_nlt0 (by omega)) ?_
      rw [j.st6, hasI_iff j.lt (show n < 32 by omega)]
      rw [show hrow S (n + 1) = (if S.testBit n = true then n / 4 + 1 else hrow S n) from rfl] at he
      refine ⟨fun t => ?_, fun t => ⟨?_, rfl⟩⟩
      · rw [if_neg t] at he
        exact ih (by omega) he
      · rw [if_pos t] at he
        rw [he]
        have : nI n / 4 = nI (n / 4) := pk_div (d := 4) (by omega) (by decide) (by decide)
        rw [this]
        rfl
  exact key 12 (Nat.le_refl _) rfl
theorem r4_ne {r : Nat} (hr : r < 3) : ¬ nI r = -4 := n4_ne (by omega)
theorem pX11_highest {G : ZG} (d : Nat) {h : ZH} {S : Nat} {c e : ZQ5} {N : ZN} (j : JX h S c e N) (w : Int32) : zC G (d + 5) mX11_highest [zr 0 0, zi w] h (zJ S c e N (hiV S w)) := by
  refine zC_of (by decide +kernel) (Nat.le_of_ble_eq_true rfl) (L := [zr 0 0, zi w]) ⟨rfl, ⟨rfl, trivial⟩⟩ ?_
  refine wX11_highest_0 ?_
  unfold hiV
  refine ⟨fun a => ⟨fun z => ?_, fun z => ?_⟩, fun a => ⟨by rw [if_neg a], j⟩⟩
  · rw [if_pos a]
    have ih : zC G (d + 4) mX4_inHighestRow [zr 2 0] h (fun r h' => r = some (zi (match hrow S 12 with
      | 0 => -4
      | r + 1 => nI (zpc ((S >>> (4 * r)) &&& 15)))) ∧ h' = h) := by
      refine zC_of (by decide +kernel) (Nat.le_of_ble_eq_true rfl) (L := [zr 2 0, zu]) ⟨rfl, trivial⟩ ?_
      refine wX4_inHighestRow_0 (by decide) ?_
      refine zC_mono (jX4_highestRow d j) ?_
      rintro r h1 ⟨rfl, rfl⟩
      refine ⟨_, rfl, ?_⟩
      have hl := hrow_le S 12 (Nat.le_refl _)
      rw [j.st6]
      cases hr : hrow S 12 with
      | zero => exact ⟨fun n => absurd rfl n, fun _ => ⟨rfl, rfl⟩⟩
      | succ r =>
        have hr3 : r < 3 := by omega
        have sh : (15 : Int32) <<< ((4 * nI r) &&& 31) = nI (15 * 2 ^ (4 * r)) := by
          have : ∀ r, r < 3 → (15 : Int32) <<< ((4 * nI r) &&& 31) = nI (15 * 2 ^ (4 * r)) := by decide
          exact this r hr3
        refine ⟨fun n => ⟨?_, rfl⟩, fun n => absurd n (r4_ne hr3)⟩
        show some (zi (bcI (nI S &&& (15 : Int32) <<< ((4 * nI r) &&& 31)))) = some (zi (nI (zpc ((S >>> (4 * r)) &&& 15))))
        rw [sh, zi_and, bcI_nI (zand_lt j.lt), in_eq j.lt hr3]
    refine zC_mono ih ?_
    rintro r h1 ⟨rfl, rfl⟩
    refine ⟨_, rfl, ?_, j⟩
    cases hrow S 12 with
    | zero => rfl
    | succ r => simp only [if_neg z]
  · rw [if_pos a]
    refine zC_mono (jX4_highestRow (d + 1) j) ?_
    rintro r h1 ⟨rfl, rfl⟩
    refine ⟨_, rfl, ?_, j⟩
    cases hrow S 12 with
    | zero => rfl
    | succ r => simp only [if_pos z]; rfl
theorem pX12_highest {G : ZG} (d : Nat) {h : ZH} {S : Nat} {c e : ZQ5} {N : ZN} (j : JX h S c e N) (w : Int32) : zC G (d + 2) mX12_highest [zr 5 0, zi w] h (zJ S c e N (hiV S w)) := by
  refine zC_of (by decide +kernel) (Nat.le_of_ble_eq_true rfl) (L := [zr 5 0, zi w, zu, zu]) ⟨rfl, ⟨rfl, trivial⟩⟩ ?_
  refine wX12_highest_0 ?_
  unfold hiV
  refine ⟨fun a => ?_, fun a => ⟨by rw [if_neg a], j⟩⟩
  rw [if_pos a, row_eq j.lt]
  have key : ∀ (n : Nat), n ≤ 3 → mrow S 3 = mrow S n → zT G (d + 2) mX12_highest 13 [zr 5 0, zi w, zi (nI n + (-1)), zu] [] h (zJ S c e N (match mrow S 3 with
      | 0 => -4
      | r + 1 => if w = 0 then nI r else nI (zpc ((S >>> (4 * r)) &&& 15)))) := by
    intro n
    induction n with
    | zero =>
      intro _ hn
      refine wX12_highest_13 ?_
      refine br_t (by decide) ⟨?_, j⟩
      rw [hn]; rfl
    | succ n ih =>
      intro hn he
      rw [zx_m1]
      refine wX12_highest_13 ?_
      refine br_f (n_nlt0 (by omega)) ?_
      have sh : nI S >>> ((4 * nI n) &&& 31) = nI (S >>> (4 * n)) := by
        have e4 : ∀ n, n < 3 → (4 * nI n) &&& 31 = nI (4 * n) &&& 31 := by decide
        rw [e4 n (by omega), zi_shr (by have := j.lt; omega) (by omega)]
      have lt : (S >>> (4 * n)) &&& 15 < 4096 := Nat.lt_of_le_of_lt Nat.and_le_right (by decide)
      rw [j.m0, sh, z15, bitsI_nI lt]
      have le0 : nI (zpc ((S >>> (4 * n)) &&& 15)) ≤ 0 ↔ zpc ((S >>> (4 * n)) &&& 15) = 0 := by
        have : ∀ v, v ≤ 12 → (nI v ≤ 0 ↔ v = 0) := by decide
        exact this _ (zpc_le _)
      rw [le0]
      rw [show mrow S (n + 1) = (if zpc ((S >>> (4 * n)) &&& 15) = 0 then mrow S n else n + 1) from rfl] at he
      refine ⟨fun t => ?_, fun t => ?_⟩
      · rw [if_pos t] at he
        exact ih (by omega) he
      · rw [if_neg t] at he
        rw [he]
        exact ⟨fun z => ⟨by simp only [if_neg z], j⟩, fun z => ⟨by simp only [if_pos z], j⟩⟩
  exact key 3 (Nat.le_refl _) rfl
/-! shelves -/
theorem zin8 {x : Int32} (h : 0 ≤ x ∧ x ≤ 7) : ∃ p : Nat, p < 8 ∧ x = nI p := by
  have v : vp_in x 8 := vp_of8 (by intro q; have := fa_of_lt q; exact this.2.1 h.1) (by
    intro q
    rw [fa_le] at q
    have := h.2
    rw [fa_le] at this
    have e1 : (8 : Int32).toInt = 8 := by decide
    have e2 : (7 : Int32).toInt = 7 := by decide
    omega)
  exact vp_in_of v (by decide)
theorem kr_eq {h : ZH} (s : SH h) (x : Int32) : kindRefI h x = wKeptI h x := by
  unfold kindRefI wKeptI
  by_cases a : 0 ≤ x ∧ x ≤ 7
  · rw [if_pos a, if_pos a]
    obtain ⟨d, hd, rfl⟩ := zin8 a
    rw [nI_cl (show d ≤ 4096 by omega)]
    obtain ⟨n, hn, e4, q⟩ := s d hd
    rcases q with ⟨q1, q2⟩ | ⟨q1, q2, _⟩ | ⟨q1, q2, _⟩ <;> rw [q1, q2]
  · rw [if_neg a, if_neg a]
theorem rr_eq {h : ZH} (s : SH h) (x : Int32) : rowRefI h x = wRowI h x (-1) := by
  unfold rowRefI wRowI
  by_cases a : 0 ≤ x ∧ x ≤ 7
  · rw [if_pos a, if_pos a]
    obtain ⟨d, hd, rfl⟩ := zin8 a
    rw [nI_cl (show d ≤ 4096 by omega)]
    obtain ⟨n, hn, e4, q⟩ := s d hd
    rcases q with ⟨q1, q2⟩ | ⟨q1, q2, _⟩ | ⟨q1, q2, _⟩ <;> rw [q1, q2] <;> rfl
  · rw [if_neg a, if_neg a]
theorem kr_0 {h : ZH} (s : SH h) {x : Int32} (z : kindRefI h x = 0) : ∃ d k f : Nat, d < 8 ∧ k < 8 ∧ f < 10 ∧ x = nI d ∧ h.1 3 d 1 = nI k ∧ h.1 3 d 2 = nI f ∧ h.1 39 0 d = nI k ∧ h.1 40 0 d = nI f := by
  unfold kindRefI at z
  by_cases a : 0 ≤ x ∧ x ≤ 7
  · rw [if_pos a] at z
    obtain ⟨d, hd, rfl⟩ := zin8 a
    rw [nI_cl (show d ≤ 4096 by omega)] at z
    obtain ⟨n, hn, e4, q⟩ := s d hd
    rcases q with ⟨q1, q2⟩ | ⟨q1, q2, k, f, hk, hf, r1, r2, r3, r4⟩ | ⟨q1, q2, _⟩
    · rw [q1] at z; exact absurd z (by decide)
    · exact ⟨d, k, f, hd, hk, hf, rfl, r1, r2, r3, r4⟩
    · rw [q1] at z; exact absurd z (by decide)
  · rw [if_neg a] at z
    exact absurd z (by decide)
theorem rr_0 {h : ZH} (s : SH h) {x : Int32} (z : rowRefI h x = 0) : ∃ d n t : Nat, d < 8 ∧ n ≤ 100 ∧ t < 3 ∧ x = nI d ∧ h.1 3 d 4 = nI n ∧ h.1 42 0 d = nI n ∧ h.1 3 d 0 = 2 ∧ h.1 38 0 d = 2 ∧ h.1 3 d 3 = nI t ∧ h.1 41 0 d = nI t ∧ ∀ j, j < 100 → h.1 16 d j = h.1 43 0 (100 * d + j) ∧ (t = 0 → h.1 16 d j = (h.1 16 d j).toInt8.toInt32) := by
  unfold rowRefI at z
  by_cases a : 0 ≤ x ∧ x ≤ 7
  · rw [if_pos a] at z
    obtain ⟨d, hd, rfl⟩ := zin8 a
    rw [nI_cl (show d ≤ 4096 by omega)] at z
    obtain ⟨n, hn, e4, q⟩ := s d hd
    rcases q with ⟨q1, q2⟩ | ⟨q1, q2, _⟩ | ⟨q1, q2, t, ht, r1, r2, r3, r4⟩
    · rw [q1] at z; exact absurd z (by decide)
    · rw [q1] at z; exact absurd z (by decide)
    · exact ⟨d, n, t, hd, hn, ht, rfl, e4, r3, q1, q2, r1, r2, r4⟩
  · rw [if_neg a] at z
    exact absurd z (by decide)
def costV (h : ZH) (x : Int32) : Int32 := if kindRefI h x = 0 then costI (h.1 39 0 x.toNatClampNeg) (h.1 40 0 x.toNatClampNeg) else kindRefI h x
theorem pX11_cost {G : ZG} (d : Nat) {h : ZH} (s : SH h) (x : Int32) : zC G (d + 4) mX11_cost [zr 0 0, zi x] h (fun r h' => r = some (zi (costV h x)) ∧ h' = h) := by
  refine zC_of (by decide +kernel) (Nat.le_of_ble_eq_true rfl) (L := [zr 0 0, zi x, zu, zu]) ⟨rfl, ⟨rfl, trivial⟩⟩ ?_
  refine wX11_cost_0 ?_
  unfold costV
  refine ⟨fun z => ?_, fun z => ⟨by rw [if_neg z], rfl⟩⟩
  obtain ⟨dd, k, f, hd, hk, hf, rfl, r1, r2, r3, r4⟩ := kr_0 s z
  rw [if_pos z, nI_cl (show dd ≤ 4096 by omega), r1, r2, r3, r4, nI_cl (show k ≤ 4096 by omega)]
  refine ⟨vpn hd (by decide), vpn hk (by decide), ?_⟩
  refine zCX_mono (oX_price d hk _) ?_
  rintro r h1 ⟨rfl, rfl⟩
  exact ⟨_, rfl, rfl, rfl⟩
theorem pX12_cost {G : ZG} (d : Nat) {h : ZH} (s : SH h) (x : Int32) : zC G (d + 4) mX12_cost [zr 5 0, zi x] h (fun r h' => r = some (zi (costV h x)) ∧ h' = h) := by
  refine zC_of (by decide +kernel) (Nat.le_of_ble_eq_true rfl) (L := [zr 5 0, zi x, zu]) ⟨rfl, ⟨rfl, trivial⟩⟩ ?_
  refine wX12_cost_0 ?_
  unfold costV
  rw [← kr_eq s]
  refine ⟨fun z => ?_, fun z => ⟨by rw [if_neg z], rfl⟩⟩
  obtain ⟨dd, k, f, hd, hk, hf, rfl, r1, r2, r3, r4⟩ := kr_0 s z
  rw [if_pos z]
  exact ⟨vpn hd (by decide), vpn hd (by decide), rfl, rfl⟩
