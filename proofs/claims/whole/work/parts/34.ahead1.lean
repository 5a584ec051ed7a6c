/-! ===== looking ahead, both sides: falls, corners, worst ===== -/
def zJ (S : Nat) (c e : ZQ5) (N : ZN) (v : Int32) (r : Option ZV) (h' : ZH) : Prop := r = some (zi v) ∧ JX h' S c e N
def stN (S : Nat) (x : Int32) : Int32 := if 0 ≤ x ∧ x ≤ 11 then (if hasI (nI S) x then 0 else -3) else -1
theorem JX.st6 {h : ZH} {S : Nat} {c e : ZQ5} {N : ZN} (j : JX h S c e N) : h.1 2 0 6 = nI S := j.c.S
theorem JX.m0 {h : ZH} {S : Nat} {c e : ZQ5} {N : ZN} (j : JX h S c e N) : h.1 30 0 0 = nI S := j.m.2.2.1
theorem JX.stR {h : ZH} {S : Nat} {c e : ZQ5} {N : ZN} (j : JX h S c e N) (x : Int32) : stRefI h x = stN S x := by unfold stRefI stN; rw [j.st6]
theorem JX.stW {h : ZH} {S : Nat} {c e : ZQ5} {N : ZN} (j : JX h S c e N) (x : Int32) : wStoneI h x = stN S x := by unfold wStoneI stN; rw [j.m0]
theorem zin12 {x : Int32} (h : 0 ≤ x ∧ x ≤ 11) : ∃ p : Nat, p < 12 ∧ x = nI p := by
  have v : vp_in x 12 := vp_of12 (by intro q; have := fa_of_lt q; exact this.2.1 h.1) (by
    intro q
    rw [fa_le] at q
    have := h.2
    rw [fa_le] at this
    have e1 : (12 : Int32).toInt = 12 := by decide
    have e2 : (11 : Int32).toInt = 11 := by decide
    omega)
  exact vp_12 v
theorem stN_0 {S : Nat} {x : Int32} (hS : S < 4096) (h : stN S x = 0) : ∃ p : Nat, p < 12 ∧ x = nI p ∧ S.testBit p = true := by
  unfold stN at h
  by_cases q : 0 ≤ x ∧ x ≤ 11
  · rw [if_pos q] at h
    obtain ⟨p, hp, rfl⟩ := zin12 q
    by_cases t : hasI (nI S) (nI p)
    · exact ⟨p, hp, rfl, (hasI_iff hS (by omega)).mp t⟩
    · rw [if_neg t] at h; exact absurd h (by decide)
  · rw [if_neg q] at h; exact absurd h (by decide)
theorem jX3_fallenWithout {G : ZG} (d : Nat) {h : ZH} {S U : Nat} {c e : ZQ5} {N : ZN} (j : JX h S c e N) : zC G (d + 5) mX3_fallenWithout [zr 1 0, zi (nI U)] h (zJ S c e N (nI (zsd (zsd S U) (stl e (zsd S U))))) := by
  refine zC_of (by decide +kernel) (Nat.le_of_ble_eq_true rfl) (L := [zr 1 0, zi (nI U), zu]) ⟨rfl, ⟨rfl, trivial⟩⟩ ?_
  refine wX3_fallenWithout_0 ?_
  rw [j.st6, zi_not j.lt]
  refine zC_mono (jX3_leftOf d j (zsd_le j.lt)) ?_
  rintro r h' ⟨rfl, j', _⟩
  refine ⟨_, rfl, ?_, j'⟩
  rw [zi_not (zsd_lt j.lt)]
theorem zfall_0 {e : ZQ5} {T : Nat} (hT : T < 4096) : nI (zsd T (stl e T)) = 0 ↔ stl e T = T := by
  rw [zi_0, zi_inj (zsd_lt hT) (by decide)]
  constructor
  · intro h
    refine zs_ext (stl_lt e hT) hT fun p hp => ?_
    have := congrArg (fun n => Nat.testBit n p) h
    simp only [zsd_bit hT, Nat.zero_testBit, Bool.and_eq_false_iff, Bool.not_eq_false'] at this
    by_cases t : T.testBit p = true
    · rcases this with q | q
      · rw [q] at t; cases t
      · rw [q, t]
    · rw [eq_false_of_ne_true t]
      exact eq_false_of_ne_true fun q => t (stl_le e hT p q)
  · intro h
    rw [h]
    apply Nat.eq_of_testBit_eq
    intro p
    rw [zsd_bit hT, Nat.zero_testBit]
    cases T.testBit p <;> rfl
theorem zpc_fall {e : ZQ5} {S U : Nat} (hS : S < 4096) : zpc (zsd (zsd S U) (stl e (zsd S U))) = fallN e S U := by
  have := zpc_sub (stl_le e (zsd_lt (T := U) hS)) (zsd_lt hS)
  unfold fallN
  omega
theorem jX3_countWithout {G : ZG} (d : Nat) {h : ZH} {S U : Nat} {c e : ZQ5} {N : ZN} (j : JX h S c e N) : zC G (d + 6) mX3_countWithout [zr 1 0, zi (nI U)] h (zJ S c e N (nI (fallN e S U))) := by
  refine zC_of (by decide +kernel) (Nat.le_of_ble_eq_true rfl) (L := [zr 1 0, zi (nI U)]) ⟨rfl, ⟨rfl, trivial⟩⟩ ?_
  refine wX3_countWithout_0 ?_
  refine zC_mono (jX3_fallenWithout d j) ?_
  rintro r h' ⟨rfl, j'⟩
  refine ⟨_, rfl, ?_, j'⟩
  rw [bcI_nI (zsd_lt (zsd_lt j.lt)), zpc_fall j.lt]
theorem zsd_self {T p : Nat} (hT : T < 4096) (hp : p < 12) : zsd T (2 ^ p) = T ↔ ¬ T.testBit p = true := by
  constructor
  · intro h q
    have := zsd_bit (S := T) (T := 2 ^ p) (p := p) hT
    rw [h, zp_bit, q] at this
    simp at this
  · intro h
    refine zs_ext (zsd_lt hT) hT fun q hq => ?_
    rw [zsd_bit hT, zp_bit]
    by_cases z : p = q
    · subst z; rw [eq_false_of_ne_true h]; rfl
    · simp [z]
/-- whether a place is in a set and nothing falls when it is taken out -/
def safe1 (e : ZQ5) (T p : Nat) : Bool := T.testBit p && decide (stl e (zsd T (2 ^ p)) = zsd T (2 ^ p))
theorem safeN_eq (e : ZQ5) (S : Nat) : safeN e S = zmk (safe1 e S) 12 := rfl
theorem zle_sd {T S U : Nat} (hT : T < 4096) (h : zle T S) : zle (zsd T U) S := zle_tr (zsd_le hT) h
theorem jX3_isSafeIn {G : ZG} (d : Nat) {h : ZH} {S T p : Nat} {c e : ZQ5} {N : ZN} (j : JX h S c e N) (hT : zle T S) (hp : p < 12) : zC G (d + 5) mX3_isSafeIn [zr 1 0, zi (nI T), zi (nI p)] h (zJ S c e N (zb (safe1 e T p = true))) := by
  refine zC_of (by decide +kernel) (Nat.le_of_ble_eq_true rfl) (L := [zr 1 0, zi (nI T), zi (nI p), zu]) ⟨rfl, ⟨rfl, ⟨rfl, trivial⟩⟩⟩ ?_
  have hT4 := zle_lt hT j.lt
  refine wX3_isSafeIn_0 ?_
  rw [zsd_p hT4 hp, zi_inj (zsd_lt hT4) hT4, zsd_self hT4 hp]
  refine ⟨fun t => ⟨?_, j⟩, fun t => ?_⟩
  · rw [zb_f (by unfold safe1; simp [t])]
  · refine zC_mono (jX3_leftOf d j (zle_sd hT4 hT)) ?_
    rintro r h' ⟨rfl, j', _⟩
    refine ⟨_, rfl, ?_⟩
    rw [zi_inj (stl_lt e (zsd_lt hT4)) (zsd_lt hT4)]
    have t' : T.testBit p = true := by simpa using t
    refine ⟨fun q => ⟨?_, j'⟩, fun q => ⟨?_, j'⟩⟩
    · rw [zb_f (by unfold safe1; simp [q])]
    · rw [zb_t (by unfold safe1; simp [q, t'])]
theorem jX3_safeOnes {G : ZG} (d : Nat) {h : ZH} {S : Nat} {c e : ZQ5} {N : ZN} (j : JX h S c e N) : zC G (d + 6) mX3_safeOnes [zr 1 0] h (zJ S c e N (nI (safeN e S))) := by
  refine zC_of (by decide +kernel) (Nat.le_of_ble_eq_true rfl) (L := [zr 1 0, zu, zu]) ⟨rfl, trivial⟩ ?_
  refine wX3_safeOnes_0 ?_
  have key : ∀ (f m : Nat), f + m = 12 → ∀ h1 : ZH, JX h1 S c e N → zT G (d + 6) mX3_safeOnes 4 [zr 1 0, zi (nI (zmk (safe1 e S) m)), zi (nI m)] [] h1 (zJ S c e N (nI (safeN e S))) := by
    intro f
    induction f with
    | zero =>
      intro m hm h1 j1
      have e : m = 12 := by omega
      subst e
      refine wX3_safeOnes_4 ?_
      exact br_t (by decide) ⟨rfl, j1⟩
    | succ f ih =>
      intro m hm h1 j1
      have hm' : m < 12 := by omega
      refine wX3_safeOnes_4 ?_
      refine br_f (nI_ge (a := m) (b := 12) (by omega) (by decide)) ?_
      rw [j1.st6, hasI_iff j.lt (show m < 32 by omega), nI_1]
      refine ⟨fun t => ?_, fun t => ?_⟩
      · have := ih (m + 1) (by omega) h1 j1
        rw [zmk_no _ (by unfold safe1; simp [t])] at this
        exact this
      · rw [zi_sh hm']
        refine zC_mono (jX3_fallenWithout (U := 2 ^ m) d j1) ?_
        rintro r h2 ⟨rfl, j2⟩
        refine ⟨_, rfl, ?_⟩
        rw [zfall_0 (zsd_lt j.lt)]
        have IH := ih (m + 1) (by omega) h2 j2
        refine ⟨fun t2 => ?_, fun t2 => ?_⟩
        · rw [zmk_no _ (by unfold safe1; simp [t2])] at IH
          exact IH
        · rw [← zi_mk _ hm' (by unfold safe1; simp [t, t2]), zi_sh hm'] at IH
          exact IH
  exact key 12 0 (by omega) h j
/-- falls -/
def fallsV (e : ZQ5) (S : Nat) (x w : Int32) : Int32 := if 0 ≤ w ∧ w ≤ 2 then (if stN S x = 0 then (if w = 1 then nI (stp e (zsd S (2 ^ x.toNatClampNeg))) else if w = 0 then nI (fallN e S (2 ^ x.toNatClampNeg)) else nI (zsd (zsd S (2 ^ x.toNatClampNeg)) (stl e (zsd S (2 ^ x.toNatClampNeg))))) else stN S x) else -1
theorem n02 {w : Int32} (h : w < 0) : ¬ (0 ≤ w ∧ w ≤ 2) := fun q => (fa_of_lt h).2.1 q.1
theorem n02' {w : Int32} (h : ¬ w ≤ 2) : ¬ (0 ≤ w ∧ w ≤ 2) := fun q => h q.2
theorem i02 {w : Int32} (h : ¬ w < 0) : 0 ≤ w := fa_of_nlt h
theorem pX11_falls {G : ZG} (d : Nat) {h : ZH} {S : Nat} {c e : ZQ5} {N : ZN} (j : JX h S c e N) (x w : Int32) : zC G (d + 6) mX11_falls [zr 0 0, zi x, zi w] h (zJ S c e N (fallsV e S x w)) := by
  refine zC_of (by decide +kernel) (Nat.le_of_ble_eq_true rfl) (L := [zr 0 0, zi x, zi w, zu, zu]) ⟨rfl, ⟨rfl, ⟨rfl, trivial⟩⟩⟩ ?_
  refine wX11_falls_0 ?_
  rw [j.stR, j.st6]
  refine ⟨fun a => ⟨by unfold fallsV; rw [if_neg (n02 a)], j⟩, fun a => ⟨fun b => ⟨fun s => ?_, fun s => ⟨by unfold fallsV; rw [if_pos ⟨i02 a, b⟩, if_neg s], j⟩⟩, fun b => ⟨by unfold fallsV; rw [if_neg (n02' b)], j⟩⟩⟩
  obtain ⟨p, hp, rfl, hb⟩ := stN_0 j.lt s
  have hV : fallsV e S (nI p) w = (if w = 1 then nI (stp e (zsd S (2 ^ p))) else if w = 0 then nI (fallN e S (2 ^ p)) else nI (zsd (zsd S (2 ^ p)) (stl e (zsd S (2 ^ p))))) := by
    unfold fallsV
    rw [if_pos ⟨i02 a, b⟩, if_pos s, nI_cl (by omega)]
  rw [hV]
  refine ⟨fun w1 => ?_, fun w1 => ?_⟩
  · rw [zi_sh hp, if_neg w1]
    refine zC_mono (jX3_fallenWithout (U := 2 ^ p) d j) ?_
    rintro r h' ⟨rfl, j'⟩
    refine ⟨_, rfl, fun w0 => ⟨by rw [if_neg w0], j'⟩, fun w0 => ⟨?_, j'⟩⟩
    rw [if_pos w0, bcI_nI (zsd_lt (zsd_lt j.lt)), zpc_fall j.lt]
  · rw [zsd_p j.lt hp, if_pos w1]
    refine zC_mono (sX4_stepsFrom (d + 2) j.c (zsd_lt j.lt)) ?_
    rintro r h' ⟨rfl, f⟩
    refine ⟨_, rfl, ?_, j.fL f⟩
    rw [stp_eq (zsd_lt j.lt) (j.eq.sub (zsd_le j.lt))]
theorem zsd_sw {S U V : Nat} (hS : S < 4096) : zsd (zsd S U) V = zsd (zsd S V) U := by
  refine zs_ext (zsd_lt (zsd_lt hS)) (zsd_lt (zsd_lt hS)) fun p hp => ?_
  rw [zsd_bit (zsd_lt hS), zsd_bit hS, zsd_bit (zsd_lt hS), zsd_bit hS]
  cases S.testBit p <;> cases U.testBit p <;> cases V.testBit p <;> rfl
theorem pX12_falls {G : ZG} (d : Nat) {h : ZH} {S : Nat} {c e : ZQ5} {N : ZN} (j : JX h S c e N) (x w : Int32) : zC G (d + 7) mX12_falls [zr 5 0, zi x, zi w] h (zJ S c e N (fallsV e S x w)) := by
  refine zC_of (by decide +kernel) (Nat.le_of_ble_eq_true rfl) (L := [zr 5 0, zi x, zi w, zu, zu, zu]) ⟨rfl, ⟨rfl, ⟨rfl, trivial⟩⟩⟩ ?_
  refine wX12_falls_0 ?_
  rw [j.stW, j.m0]
  refine ⟨fun a => ⟨fun s => ?_, fun s => ⟨by unfold fallsV; rw [if_pos a, if_neg s], j⟩⟩, fun a => ⟨by unfold fallsV; rw [if_neg a], j⟩⟩
  obtain ⟨p, hp, rfl, hb⟩ := stN_0 j.lt s
  have hV : fallsV e S (nI p) w = (if w = 1 then nI (stp e (zsd S (2 ^ p))) else if w = 0 then nI (fallN e S (2 ^ p)) else nI (zsd (zsd S (2 ^ p)) (stl e (zsd S (2 ^ p))))) := by
    unfold fallsV
    rw [if_pos a, if_pos s, nI_cl (by omega)]
  rw [hV, zi_sh hp]
  refine zC_mono (jX12_leftWithout d j j.lt) ?_
  rintro r h' ⟨rfl, q5, j', _⟩
  refine ⟨_, rfl, ?_⟩
  intro y ey
  rw [j'.m0, zi_not j.lt, zi_not (zsd_lt j.lt), zsd_sw j.lt] at ey
  rw [ey, q5]
  refine ⟨fun w0 => ⟨fun w1 => ⟨by rw [if_neg w1, if_neg w0], j'⟩, fun w1 => ⟨by rw [if_pos w1], j'⟩⟩, fun w0 => ⟨?_, j'⟩⟩
  rw [if_neg (by rw [w0]; decide), if_pos w0, bitsI_nI (zsd_lt (zsd_lt j.lt)), zpc_fall j.lt]
/-- corners -/
def corn1 (e : ZQ5) (S p : Nat) : Bool := S.testBit p && (decide (zsd S (2 ^ p) ≠ 0) && decide (stl e (zsd S (2 ^ p)) = 0))
def cornV (e : ZQ5) (S : Nat) (x : Int32) : Int32 := if 0 ≤ x ∧ x ≤ 1 then (if x = 0 then nI (zmk (corn1 e S) 12) else nI (safeN e S)) else -1
theorem zn0 {T : Nat} (hT : T < 4096) : nI T = 0 ↔ T = 0 := by rw [zi_0, zi_inj hT (by decide)]
theorem jX3_cornerstones {G : ZG} (d : Nat) {h : ZH} {S : Nat} {c e : ZQ5} {N : ZN} (j : JX h S c e N) : zC G (d + 5) mX3_cornerstones [zr 1 0] h (zJ S c e N (nI (zmk (corn1 e S) 12))) := by
  refine zC_of (by decide +kernel) (Nat.le_of_ble_eq_true rfl) (L := [zr 1 0, zu, zu, zu]) ⟨rfl, trivial⟩ ?_
  refine wX3_cornerstones_0 ?_
  have key : ∀ (f m : Nat), f + m = 12 → ∀ h1 : ZH, JX h1 S c e N → zT G (d + 5) mX3_cornerstones 4 [zr 1 0, zi (nI (zmk (corn1 e S) m)), zi (nI m), zu] [] h1 (zJ S c e N (nI (zmk (corn1 e S) 12))) := by
    intro f
    induction f with
    | zero =>
      intro m hm h1 j1
      have e : m = 12 := by omega
      subst e
      refine wX3_cornerstones_4 ?_
      exact br_t (by decide) ⟨rfl, j1⟩
    | succ f ih =>
      intro m hm h1 j1
      have hm' : m < 12 := by omega
      refine wX3_cornerstones_4 ?_
      refine br_f (nI_ge (a := m) (b := 12) (by omega) (by decide)) ?_
      rw [j1.st6, hasI_iff j.lt (show m < 32 by omega), nI_1, zsd_p j.lt hm', zn0 (zsd_lt j.lt)]
      have IH := ih (m + 1) (by omega)
      refine ⟨fun t => ?_, fun t => ⟨fun z => ?_, fun z => ?_⟩⟩
      · rw [zmk_no _ (by unfold corn1; simp [t])] at IH
        exact IH h1 j1
      · rw [zmk_no _ (by unfold corn1; simp [z])] at IH
        exact IH h1 j1
      · refine zC_mono (jX3_leftOf d j1 (zsd_le j.lt)) ?_
        rintro r h2 ⟨rfl, j2, _⟩
        refine ⟨_, rfl, ?_⟩
        rw [zn0 (stl_lt e (zsd_lt j.lt))]
        refine ⟨fun t2 => ?_, fun t2 => ?_⟩
        · rw [zmk_no _ (by unfold corn1; simp [t2])] at IH
          exact IH h2 j2
        · rw [← zi_mk _ hm' (by unfold corn1; simp [t, t2, z])] at IH
          exact IH h2 j2
  exact key 12 0 (by omega) h j
theorem zsd_0iff {S p : Nat} (hS : S < 4096) (hp : p < 12) (hb : S.testBit p = true) : nI S = (1 : Int32) <<< (nI p &&& 31) ↔ zsd S (2 ^ p) = 0 := by
  rw [zi_sh hp, zi_inj hS (zp_lt hp)]
  constructor
  · intro h
    apply Nat.eq_of_testBit_eq
    intro q
    rw [zsd_bit hS, Nat.zero_testBit, h]
    cases (2 ^ p).testBit q <;> rfl
  · intro h
    refine zs_ext hS (zp_lt hp) fun q hq => ?_
    have := congrArg (fun n => Nat.testBit n q) h
    simp only [zsd_bit hS, Nat.zero_testBit, Bool.and_eq_false_iff, Bool.not_eq_false', zp_bit] at this
    rw [zp_bit]
    by_cases z : p = q
    · subst z; rw [hb]; simp
    · rcases this with w | w
      · rw [w]; simp [z]
      · simp at w; exact absurd w z
theorem pX11_corners {G : ZG} (d : Nat) {h : ZH} {S : Nat} {c e : ZQ5} {N : ZN} (j : JX h S c e N) (x : Int32) : zC G (d + 7) mX11_corners [zr 0 0, zi x] h (zJ S c e N (cornV e S x)) := by
  refine zC_of (by decide +kernel) (Nat.le_of_ble_eq_true rfl) (L := [zr 0 0, zi x]) ⟨rfl, ⟨rfl, trivial⟩⟩ ?_
  refine wX11_corners_0 ?_
  unfold cornV
  refine ⟨fun a => ⟨fun z => ?_, fun z => ?_⟩, fun a => ⟨by rw [if_neg a], j⟩⟩
  · refine zC_mono (jX3_safeOnes d j) ?_
    rintro r h' ⟨rfl, j'⟩
    exact ⟨_, rfl, by rw [if_pos a, if_neg z], j'⟩
  · refine zC_mono (jX3_cornerstones (d + 1) j) ?_
    rintro r h' ⟨rfl, j'⟩
    exact ⟨_, rfl, by rw [if_pos a, if_pos z], j'⟩
theorem n01 {x : Int32} (a : 0 ≤ x ∧ x ≤ 1) : x = 0 ∨ x = 1 := by
  obtain ⟨a1, a2⟩ := a
  rw [fa_le] at a1 a2
  have e0 : (0 : Int32).toInt = 0 := by decide
  have e1 : (1 : Int32).toInt = 1 := by decide
  rw [fa_eq, fa_eq, e0, e1]
  omega
theorem pX12_corners {G : ZG} (d : Nat) {h : ZH} {S : Nat} {c e : ZQ5} {N : ZN} (j : JX h S c e N) (x : Int32) : zC G (d + 9) mX12_corners [zr 5 0, zi x] h (zJ S c e N (cornV e S x)) := by
  refine zC_of (by decide +kernel) (Nat.le_of_ble_eq_true rfl) (L := [zr 5 0, zi x, zu, zu]) ⟨rfl, ⟨rfl, trivial⟩⟩ ?_
  refine wX12_corners_0 ?_
  unfold cornV
  refine ⟨fun a => ⟨fun z => ?_, fun z => ?_⟩, fun a => ⟨by rw [if_neg a], j⟩⟩
  · have z0 : x = 0 := (n01 a).resolve_right z
    rw [if_pos a, if_pos z0]
    have key : ∀ (f m : Nat), f + m = 12 → ∀ h1 : ZH, JX h1 S c e N → zT G (d + 9) mX12_corners 31 [zr 5 0, zi x, zi (nI (zmk (corn1 e S) m)), zi (nI m)] [] h1 (zJ S c e N (nI (zmk (corn1 e S) 12))) := by
      intro f
      induction f with
      | zero =>
        intro m hm h1 j1
        have e : m = 12 := by omega
        subst e
        refine wX12_corners_31 ?_
        exact br_t (by decide) ⟨rfl, j1⟩
      | succ f ih =>
        intro m hm h1 j1
        have hm' : m < 12 := by omega
        refine wX12_corners_31 ?_
        refine br_f (nI_ge (a := m) (b := 12) (by omega) (by decide)) ?_
        rw [j1.m0, hasI_iff j.lt (show m < 32 by omega), nI_1, zor_0]
        have IH := ih (m + 1) (by omega)
        refine ⟨fun t => ?_, fun t => ?_⟩
        · rw [zmk_no _ (by unfold corn1; simp [t])] at IH
          exact IH h1 j1
        · rw [zsd_0iff j.lt hm' t]
          refine ⟨fun z => ?_, fun z => ?_⟩
          · rw [zmk_no _ (by unfold corn1; simp [z])] at IH
            exact IH h1 j1
          · rw [zi_sh hm']
            refine zC_mono (jX12_leftWithout (U := 2 ^ m) (d + 2) j1 j.lt) ?_
            rintro r h2 ⟨rfl, _, j2, _⟩
            refine ⟨_, rfl, ?_⟩
            rw [zn0 (stl_lt e (zsd_lt j.lt))]
            refine ⟨fun t2 => ?_, fun t2 => ?_⟩
            · rw [zmk_no _ (by unfold corn1; simp [t2])] at IH
              exact IH h2 j2
            · rw [← zi_mk _ hm' (by unfold corn1; simp [t, t2, z]), zi_sh hm'] at IH
              exact IH h2 j2
    exact key 12 0 (by omega) h j
  · rw [j.m0]
    refine zC_mono (jX12_safeOf d j j.lt) ?_
    rintro r h' ⟨rfl, j', _⟩
    refine ⟨_, rfl, ?_, j'⟩
    rw [if_pos a, if_neg (by rw [z]; decide)]
/-- worst -/
def worstN (e : ZQ5) (S : Nat) : Nat → Int32 × Int32
  | 0 => (-4, -1)
  | n + 1 => if S.testBit n = true ∧ (worstN e S n).2 < nI (fallN e S (2 ^ n)) then (nI n, nI (fallN e S (2 ^ n))) else worstN e S n
theorem jX3_worstPlace {G : ZG} (d : Nat) {h : ZH} {S : Nat} {c e : ZQ5} {N : ZN} (j : JX h S c e N) : zC G (d + 7) mX3_worstPlace [zr 1 0] h (zJ S c e N (worstN e S 12).1) := by
  refine zC_of (by decide +kernel) (Nat.le_of_ble_eq_true rfl) (L := [zr 1 0, zu, zu, zu]) ⟨rfl, trivial⟩ ?_
  refine wX3_worstPlace_0 ?_
  have key : ∀ (f m : Nat), f + m = 12 → ∀ h1 : ZH, JX h1 S c e N → zT G (d + 7) mX3_worstPlace 7 [zr 1 0, zi (worstN e S m).1, zi (worstN e S m).2, zi (nI m)] [] h1 (zJ S c e N (worstN e S 12).1) := by
    intro f
    induction f with
    | zero =>
      intro m hm h1 j1
      have e : m = 12 := by omega
      subst e
      refine wX3_worstPlace_7 ?_
      exact br_t (by decide) ⟨rfl, j1⟩
    | succ f ih =>
      intro m hm h1 j1
      have hm' : m < 12 := by omega
      refine wX3_worstPlace_7 ?_
      refine br_f (nI_ge (a := m) (b := 12) (by omega) (by decide)) ?_
      rw [j1.st6, hasI_iff j.lt (show m < 32 by omega), nI_1, zi_sh hm']
      have IH := ih (m + 1) (by omega)
      refine ⟨fun t => ?_, fun t => ?_⟩
      · rw [worstN, if_neg (fun q => t q.1)] at IH
        exact IH h1 j1
      · refine zC_mono (jX3_countWithout (U := 2 ^ m) d j1) ?_
        rintro r h2 ⟨rfl, j2⟩
        refine ⟨_, rfl, fun q => ?_, fun q => ?_⟩
        · rw [worstN, if_neg (fun z => Int32.not_le.mpr z.2 q)] at IH
          exact IH h2 j2
        · refine zC_mono (jX3_countWithout (U := 2 ^ m) d j2) ?_
          rintro r h3 ⟨rfl, j3⟩
          refine ⟨_, rfl, ?_⟩
          rw [worstN, if_pos ⟨t, Int32.not_le.mp q⟩] at IH
          exact IH h3 j3
  exact key 12 0 (by omega) h j
theorem pX11_worst {G : ZG} (d : Nat) {h : ZH} {S : Nat} {c e : ZQ5} {N : ZN} (j : JX h S c e N) : zC G (d + 8) mX11_worst [zr 0 0] h (zJ S c e N (worstN e S 12).1) := by
  refine zC_of (by decide +kernel) (Nat.le_of_ble_eq_true rfl) (L := [zr 0 0]) ⟨rfl, trivial⟩ ?_
  refine wX11_worst_0 ?_
  refine zC_mono (jX3_worstPlace d j) ?_
  rintro r h' ⟨rfl, j'⟩
  exact ⟨_, rfl, rfl, j'⟩
theorem pX12_worst {G : ZG} (d : Nat) {h : ZH} {S : Nat} {c e : ZQ5} {N : ZN} (j : JX h S c e N) : zC G (d + 8) mX12_worst [zr 5 0] h (zJ S c e N (worstN e S 12).1) := by
  refine zC_of (by decide +kernel) (Nat.le_of_ble_eq_true rfl) (L := [zr 5 0, zu, zu, zu]) ⟨rfl, trivial⟩ ?_
  refine wX12_worst_0 ?_
  have key : ∀ (f m : Nat), f + m = 12 → ∀ h1 : ZH, JX h1 S c e N → zT G (d + 8) mX12_worst 7 [zr 5 0, zi (worstN e S m).1, zi (worstN e S m).2, zi (nI m)] [] h1 (zJ S c e N (worstN e S 12).1) := by
    intro f
    induction f with
    | zero =>
      intro m hm h1 j1
      have e : m = 12 := by omega
      subst e
      refine wX12_worst_7 ?_
      exact br_t (by decide) ⟨rfl, j1⟩
    | succ f ih =>
      intro m hm h1 j1
      have hm' : m < 12 := by omega
      refine wX12_worst_7 ?_
      refine br_f (nI_ge (a := m) (b := 12) (by omega) (by decide)) ?_
      rw [j1.m0, hasI_iff j.lt (show m < 32 by omega), nI_1, zi_sh hm']
      have IH := ih (m + 1) (by omega)
      refine ⟨fun t => ?_, fun t => ?_⟩
      · rw [worstN, if_neg (fun q => t q.1)] at IH
        exact IH h1 j1
      · refine zC_mono (jX12_fallsOf (U := 2 ^ m) d j1 j.lt) ?_
        rintro r h2 ⟨rfl, j2, _⟩
        refine ⟨_, rfl, fun q => ?_, fun q => ?_⟩
        · rw [j2.m0]
          refine zC_mono (jX12_fallsOf (U := 2 ^ m) d j2 j.lt) ?_
          rintro r h3 ⟨rfl, j3, _⟩
          refine ⟨_, rfl, ?_⟩
          rw [worstN, if_pos ⟨t, q⟩] at IH
          exact IH h3 j3
        · rw [worstN, if_neg (fun z => q z.2)] at IH
          exact IH h2 j2
  exact key 12 0 (by omega) h j
