/-! ===== most load, more, count, both sides ===== -/
def mostN (e : ZQ5) (S : Nat) : Nat → Int32 × Int32
  | 0 => (-4, -1)
  | n + 1 => if S.testBit n = true ∧ (mostN e S n).2 < zlds e S n then (nI n, zlds e S n) else mostN e S n
theorem most_is {e : ZQ5} {S : Nat} (hw : wOk e S) : ∀ n, n ≤ 12 → (mostN e S n = (-4, -1) ∧ ∀ p, p < n → ¬ S.testBit p = true) ∨ ∃ p, p < n ∧ S.testBit p = true ∧ mostN e S n = (nI p, zlds e S p) := by
  intro n
  induction n with
  | zero => intro _; exact Or.inl ⟨rfl, fun p hp => absurd hp (Nat.not_lt_zero p)⟩
  | succ n ih =>
    intro hn
    rw [mostN]
    by_cases q : S.testBit n = true ∧ (mostN e S n).2 < zlds e S n
    · rw [if_pos q]
      exact Or.inr ⟨n, by omega, q.1, rfl⟩
    · rw [if_neg q]
      rcases ih (by omega) with ⟨a, b⟩ | ⟨p, hp, hb, a⟩
      · refine Or.inl ⟨a, fun p hp hb => ?_⟩
        by_cases z : p = n
        · subst z
          apply q
          refine ⟨hb, ?_⟩
          rw [a]
          obtain ⟨v, hv, ev⟩ := lds_ok hw (show p < 12 by omega)
          rw [ev, fa_lt, nI_toInt (by omega)]
          have : ((-4, -1) : Int32 × Int32).2.toInt = -1 := by decide
          rw [this]
          omega
        · exact b p (by omega) hb
      · exact Or.inr ⟨p, by omega, hb, a⟩
def mlV (e : ZQ5) (S : Nat) (w : Int32) : Int32 := if 0 ≤ w ∧ w ≤ 1 then (if w = 1 then (mostN e S 12).1 else if (mostN e S 12).1 = -4 then -4 else (mostN e S 12).2) else -1
theorem jX4_heaviestLaden {G : ZG} (d : Nat) {h : ZH} {S : Nat} {c e : ZQ5} {N : ZN} (j : JX h S c e N) : zC G (d + 5) mX4_heaviestLaden [zr 2 0] h (fun r h' => zJ S c e N (mostN e S 12).1 r h' ∧ ∀ p, p < 12 → h'.1 15 0 p = zlds e S p) := by
  refine zC_of (by decide +kernel) (Nat.le_of_ble_eq_true rfl) (L := [zr 2 0, zu, zu, zu]) ⟨rfl, trivial⟩ ?_
  refine wX4_heaviestLaden_0 (by decide) ?_
  refine zC_mono (jX4_weighAll d j) ?_
  rintro r h1 ⟨rfl, ld, j1, f1⟩
  refine ⟨rfl, ?_⟩
  have key : ∀ (f m : Nat), f + m = 12 → zT G (d + 5) mX4_heaviestLaden 11 [zr 2 0, zi (mostN e S m).1, zi (mostN e S m).2, zi (nI m)] [] h1 (fun r h' => zJ S c e N (mostN e S 12).1 r h' ∧ ∀ p, p < 12 → h'.1 15 0 p = zlds e S p) := by
    intro f
    induction f with
    | zero =>
      intro m hm
      have e : m = 12 := by omega
      subst e
      refine wX4_heaviestLaden_11 (by decide) ?_
      exact br_t (by decide) ⟨⟨rfl, j1⟩, ld⟩
    | succ f ih =>
      intro m hm
      have hm' : m < 12 := by omega
      refine wX4_heaviestLaden_11 (by decide) ?_
      refine br_f (nI_ge (a := m) (b := 12) (by omega) (by decide)) ?_
      have v : vp_in (nI m) 12 := vpn hm' (by decide)
      rw [j1.st6, hasI_iff j.lt (show m < 32 by omega), nI_1, nI_cl (show m ≤ 4096 by omega), ld m hm']
      have IH := ih (m + 1) (by omega)
      refine ⟨fun t => ?_, fun t => ⟨v, fun q => ?_, fun q => ⟨v, ?_⟩⟩⟩
      · rw [mostN, if_neg (fun q => t q.1)] at IH
        exact IH
      · rw [mostN, if_neg (fun z => Int32.not_le.mpr z.2 q)] at IH
        exact IH
      · rw [mostN, if_pos ⟨t, Int32.not_le.mp q⟩] at IH
        exact IH
  exact key 12 0 (by omega)
theorem n4_ne {p : Nat} (hp : p < 12) : ¬ nI p = -4 := by
  have : ∀ p, p < 12 → ¬ nI p = -4 := by decide
  exact this p hp
theorem n_nlt0 {p : Nat} (hp : p < 12) : ¬ nI p < 0 := by
  have : ∀ p, p < 12 → ¬ nI p < 0 := by decide
  exact this p hp
theorem pX11_mostLoad {G : ZG} (d : Nat) {h : ZH} {S : Nat} {c e : ZQ5} {N : ZN} (j : JX h S c e N) (w : Int32) : zC G (d + 6) mX11_mostLoad [zr 0 0, zi w] h (zJ S c e N (mlV e S w)) := by
  refine zC_of (by decide +kernel) (Nat.le_of_ble_eq_true rfl) (L := [zr 0 0, zi w, zu]) ⟨rfl, ⟨rfl, trivial⟩⟩ ?_
  refine wX11_mostLoad_0 ?_
  unfold mlV
  refine ⟨fun a => ?_, fun a => ⟨by rw [if_neg a], j⟩⟩
  rw [if_pos a]
  refine zC_mono (jX4_heaviestLaden d j) ?_
  rintro r h1 ⟨⟨rfl, j1⟩, ld⟩
  refine ⟨_, rfl, fun z => ⟨by rw [if_pos z], j1⟩, fun z => ?_⟩
  rw [if_neg z]
  rcases most_is j.wOk 12 (Nat.le_refl _) with ⟨q, _⟩ | ⟨p, hp, hb, q⟩
  · rw [q]
    exact ⟨fun n => absurd rfl n, fun _ => ⟨rfl, j1⟩⟩
  · rw [q]
    refine ⟨fun n => ⟨vpn hp (by decide), ?_, j1⟩, fun n => absurd n (n4_ne hp)⟩
    rw [if_neg (n4_ne hp), nI_cl (show p ≤ 4096 by omega), ld p hp]
theorem pX12_mostLoad {G : ZG} (d : Nat) {h : ZH} {S : Nat} {c e : ZQ5} {N : ZN} (j : JX h S c e N) (w : Int32) : zC G (d + 5) mX12_mostLoad [zr 5 0, zi w] h (zJ S c e N (mlV e S w)) := by
  refine zC_of (by decide +kernel) (Nat.le_of_ble_eq_true rfl) (L := [zr 5 0, zi w, zu, zu]) ⟨rfl, ⟨rfl, trivial⟩⟩ ?_
  refine wX12_mostLoad_0 ?_
  unfold mlV
  refine ⟨fun a => ?_, fun a => ⟨by rw [if_neg a], j⟩⟩
  rw [if_pos a, j.m0]
  refine zC_mono (jX12_loads d j j.lt) ?_
  rintro r h1 ⟨rfl, ld, j1, f1⟩
  refine ⟨rfl, ?_⟩
  have key : ∀ (f m : Nat), f + m = 12 → zT G (d + 5) mX12_mostLoad 26 [zr 5 0, zi w, zi (mostN e S m).1, zi (nI m)] [] h1 (zJ S c e N (if w = 1 then (mostN e S 12).1 else if (mostN e S 12).1 = -4 then -4 else (mostN e S 12).2)) := by
    intro f
    induction f with
    | zero =>
      intro m hm
      have e : m = 12 := by omega
      subst e
      refine wX12_mostLoad_26 ?_
      refine br_t (by decide) ?_
      rcases most_is j.wOk 12 (Nat.le_refl _) with ⟨q, _⟩ | ⟨p, hp, hb, q⟩
      · rw [q]
        refine ⟨fun _ => ⟨?_, j1⟩, fun n => absurd (by decide) n⟩
        by_cases z : w = 1
        · rw [if_pos z]
        · rw [if_neg z, if_pos rfl]
      · rw [q]
        refine ⟨fun n => absurd n (n_nlt0 hp), fun n => ⟨fun z => ⟨vpn hp (by decide), ?_, j1⟩, fun z => ⟨by rw [if_pos z], j1⟩⟩⟩
        rw [if_neg z, if_neg (n4_ne hp), nI_cl (show p ≤ 4096 by omega), ld p hp]
    | succ f ih =>
      intro m hm
      have hm' : m < 12 := by omega
      refine wX12_mostLoad_26 ?_
      refine br_f (nI_ge (a := m) (b := 12) (by omega) (by decide)) ?_
      have v : vp_in (nI m) 12 := vpn hm' (by decide)
      rw [j1.m0, hasI_iff j.lt (show m < 32 by omega), nI_1, nI_cl (show m ≤ 4096 by omega), ld m hm']
      have IH := ih (m + 1) (by omega)
      refine ⟨fun t => ?_, fun t => ?_⟩
      · rw [mostN, if_neg (fun q => t q.1)] at IH
        exact IH
      · rcases most_is j.wOk m (by omega) with ⟨q, _⟩ | ⟨p, hp, hb, q⟩
        · have l : (mostN e S m).2 < zlds e S m := by
            rw [q]
            obtain ⟨v, hv, ev⟩ := lds_ok j.wOk hm'
            rw [ev, fa_lt, nI_toInt (by omega)]
            have : ((-4, -1) : Int32 × Int32).2.toInt = -1 := by decide
            rw [this]
            omega
          rw [mostN, if_pos ⟨t, l⟩] at IH
          rw [q]
          exact ⟨fun _ => IH, fun n => absurd (by decide) n⟩
        · rw [mostN] at IH
          rw [q] at IH ⊢
          refine ⟨fun n => absurd n (n_nlt0 (by omega)), fun n => ⟨v, vpn (by omega) (by decide), ?_⟩⟩
          rw [nI_cl (show p ≤ 4096 by omega), ld p (by omega)]
          refine ⟨fun z => ?_, fun z => ?_⟩
          · rw [if_neg (fun k => Int32.not_le.mpr k.2 z)] at IH
            exact IH
          · rw [if_pos ⟨t, Int32.not_le.mp z⟩] at IH
            exact IH
  exact key 12 0 (by omega)
/-- more -/
def moreV (e : ZQ5) (S : Nat) (x : Int32) : Int32 := if stN S x = 0 then (if cB e x.toNatClampNeg - zlds e S x.toNatClampNeg ≤ 99 then cB e x.toNatClampNeg - zlds e S x.toNatClampNeg else 99) else stN S x
theorem JX.bears {h : ZH} {S p : Nat} {c e : ZQ5} {N : ZN} (j : JX h S c e N) (hp : p < 12) (hb : S.testBit p = true) : ∃ v : Nat, v ≤ 40 ∧ cB e p - zlds e S p = nI v := by
  have z := congrArg (fun n => Nat.testBit n p) j.fix
  have z2 : (zmk (zLZ e S) 12).testBit p = false := by
    rw [← zlz_mk]
    have := z
    simp only [Nat.zero_testBit] at this
    exact this
  rw [zms_bit _ hp] at z2
  unfold zLZ at z2
  simp only [hb, Bool.true_and, Bool.or_eq_false_iff, decide_eq_false_iff_not] at z2
  obtain ⟨k, f, hk, hf, q1, q2, q3, q4, q5, q6, q7, q8⟩ := j.at hp hb
  obtain ⟨b, hb40, eb⟩ := brs_40 hk hf
  obtain ⟨l, hl, el⟩ := lds_ok j.wOk hp
  have := z2.2
  rw [q8, eb, el, fa_lt, nI_toInt (by omega), nI_toInt (by omega)] at this
  exact ⟨b - l, by omega, by rw [q8, eb, el, nI_sub (by omega)]⟩
theorem zmx_99 {v : Nat} (hv : v ≤ 40) : zmx 0 (zmn 99 (nI v)) = nI v := by
  have : ∀ v, v ≤ 40 → zmx 0 (zmn 99 (nI v)) = nI v := by decide
  exact this v hv
theorem le_99 {v : Nat} (hv : v ≤ 40) : nI v ≤ 99 := by
  have : ∀ v, v ≤ 40 → nI v ≤ 99 := by decide
  exact this v hv
theorem pX11_more {G : ZG} (d : Nat) {h : ZH} {S : Nat} {c e : ZQ5} {N : ZN} (j : JX h S c e N) (x : Int32) : zC G (d + 5) mX11_more [zr 0 0, zi x] h (zJ S c e N (moreV e S x)) := by
  refine zC_of (by decide +kernel) (Nat.le_of_ble_eq_true rfl) (L := [zr 0 0, zi x, zu]) ⟨rfl, ⟨rfl, trivial⟩⟩ ?_
  refine wX11_more_0 ?_
  rw [j.stR]
  unfold moreV
  refine ⟨fun s => ?_, fun s => ⟨by rw [if_neg s], j⟩⟩
  rw [if_pos s]
  obtain ⟨p, hp, rfl, hb⟩ := stN_0 j.lt s
  have v : vp_in (nI p) 12 := vpn hp (by decide)
  rw [nI_cl (show p ≤ 4096 by omega)]
  refine zC_mono (jX4_weighAll d j) ?_
  rintro r h1 ⟨rfl, ld, j1, f1⟩
  refine ⟨rfl, v, v, ?_, j1⟩
  obtain ⟨k, f, hk, hf, q1, q2, q3, q4, q5, q6, q7, q8⟩ := j1.at hp hb
  obtain ⟨b, hb40, eb⟩ := j.bears hp hb
  rw [q6, ← q8, ld p hp, eb, zmx_99 hb40, if_pos (le_99 hb40)]
theorem pX12_more {G : ZG} (d : Nat) {h : ZH} {S : Nat} {c e : ZQ5} {N : ZN} (j : JX h S c e N) (x : Int32) : zC G (d + 5) mX12_more [zr 5 0, zi x] h (zJ S c e N (moreV e S x)) := by
  refine zC_of (by decide +kernel) (Nat.le_of_ble_eq_true rfl) (L := [zr 5 0, zi x, zu, zu]) ⟨rfl, ⟨rfl, trivial⟩⟩ ?_
  refine wX12_more_0 ?_
  rw [j.stW, j.m0]
  unfold moreV
  refine ⟨fun s => ?_, fun s => ⟨by rw [if_neg s], j⟩⟩
  rw [if_pos s]
  obtain ⟨p, hp, rfl, hb⟩ := stN_0 j.lt s
  have v : vp_in (nI p) 12 := vpn hp (by decide)
  rw [nI_cl (show p ≤ 4096 by omega)]
  refine zC_mono (jX12_loads d j j.lt) ?_
  rintro r h1 ⟨rfl, ld, j1, f1⟩
  refine ⟨rfl, v, v, ?_⟩
  intro y ey
  obtain ⟨k, f, hk, hf, q1, q2, q3, q4, q5, q6, q7, q8⟩ := j1.at hp hb
  rw [q1, q2, ← q8, ld p hp] at ey
  rw [ey]
  exact ⟨fun z => ⟨by rw [if_pos z], j1⟩, fun z => ⟨by rw [if_neg z], j1⟩⟩
/-- sums of places in their order -/
def sumP (f : Nat → Int32) : Nat → Int32
  | 0 => 0
  | n + 1 => sumP f n + f n
def wIn (e : ZQ5) (S p : Nat) : Int32 := if S.testBit p = true then cW e p else 0
theorem JX.w {h : ZH} {S p : Nat} {c e : ZQ5} {N : ZN} (j : JX h S c e N) (hp : p < 12) (hb : S.testBit p = true) : h.1 12 0 p = cW e p := by
  obtain ⟨k, f, hk, hf, q1, q2, q3, q4, q5, q6, q7, q8⟩ := j.at hp hb
  rw [q5, q7]
theorem JX.wk {h : ZH} {S p : Nat} {c e : ZQ5} {N : ZN} (j : JX h S c e N) (hp : p < 12) (hb : S.testBit p = true) : wgtI (kindI h (nI p)) (figI h (nI p)) = cW e p := by
  obtain ⟨k, f, hk, hf, q1, q2, q3, q4, q5, q6, q7, q8⟩ := j.at hp hb
  rw [q1, q2, q7]
theorem jX4_weightOf {G : ZG} (d : Nat) {h : ZH} {S T : Nat} {c e : ZQ5} {N : ZN} (j : JX h S c e N) (hT : zle T S) : zC G (d + 2) mX4_weightOf [zr 2 0, zi (nI T)] h (fun r h' => r = some (zi (sumP (wIn e T) 12)) ∧ h' = h) := by
  refine zC_of (by decide +kernel) (Nat.le_of_ble_eq_true rfl) (L := [zr 2 0, zi (nI T), zu, zu]) ⟨rfl, ⟨rfl, trivial⟩⟩ ?_
  refine wX4_weightOf_0 (by decide) ?_
  have hT4 := zle_lt hT j.lt
  have key : ∀ (f m : Nat), f + m = 12 → zT G (d + 2) mX4_weightOf 4 [zr 2 0, zi (nI T), zi (sumP (wIn e T) m), zi (nI m)] [] h (fun r h' => r = some (zi (sumP (wIn e T) 12)) ∧ h' = h) := by
    intro f
    induction f with
    | zero =>
      intro m hm
      have e : m = 12 := by omega
      subst e
      refine wX4_weightOf_4 (by decide) ?_
      exact br_t (by decide) ⟨rfl, rfl⟩
    | succ f ih =>
      intro m hm
      have hm' : m < 12 := by omega
      refine wX4_weightOf_4 (by decide) ?_
      refine br_f (nI_ge (a := m) (b := 12) (by omega) (by decide)) ?_
      rw [hasI_iff hT4 (show m < 32 by omega), nI_1, nI_cl (show m ≤ 4096 by omega)]
      have IH := ih (m + 1) (by omega)
      rw [sumP] at IH
      refine ⟨fun t => ?_, fun t => ⟨vpn hm' (by decide), ?_⟩⟩
      · rw [show wIn e T m = 0 from if_neg t, zadd0] at IH
        exact IH
      · rw [show wIn e T m = cW e m from if_pos t, ← j.w hm' (hT m t)] at IH
        exact IH
  exact key 12 0 (by omega)
def countV (e : ZQ5) (S : Nat) (x : Int32) : Int32 := if x = 0 then nI (zpc S) else if x = 1 then nI S else if x = 2 then nI (cP e) else if x = 3 then sumP (wIn e S) 12 else if x = 4 then sumP (zlds e S) 12 else if x = 5 then nI (zpc (S &&& 15)) else -1
theorem z15 (S : Nat) : nI S &&& 15 = nI (S &&& 15) := by
  rw [show (15 : Int32) = nI 15 from by decide, zi_and]
theorem pX11_count {G : ZG} (d : Nat) {h : ZH} {S : Nat} {c e : ZQ5} {N : ZN} (j : JX h S c e N) (x : Int32) : zC G (d + 6) mX11_count [zr 0 0, zi x] h (zJ S c e N (countV e S x)) := by
  refine zC_of (by decide +kernel) (Nat.le_of_ble_eq_true rfl) (L := [zr 0 0, zi x]) ⟨rfl, ⟨rfl, trivial⟩⟩ ?_
  refine wX11_count_0 ?_
  have hPe : cP c = cP e := j.eq.1
  rw [j.st6, j.c.P, bcI_nI j.lt, z15, bcI_nI (zand_lt j.lt), hPe]
  unfold countV
  refine ⟨fun z => ⟨by rw [if_pos z], j⟩, fun z => ?_⟩
  rw [if_neg z]
  refine ⟨fun z => ⟨by rw [if_pos z], j⟩, fun z => ?_⟩
  rw [if_neg z]
  refine ⟨fun z => ⟨by rw [if_pos z], j⟩, fun z => ?_⟩
  rw [if_neg z]
  refine ⟨fun z => ?_, fun z => ?_⟩
  · rw [if_pos z]
    refine zC_mono (jX4_weightOf (d + 3) j (zle_rf S)) ?_
    rintro r h1 ⟨rfl, rfl⟩
    exact ⟨_, rfl, rfl, j⟩
  rw [if_neg z]
  refine ⟨fun z => ?_, fun z => ?_⟩
  · rw [if_pos z]
    have al : zC G (d + 5) mX4_allLoads [zr 2 0] h (zJ S c e N (sumP (zlds e S) 12)) := by
      refine zC_of (by decide +kernel) (Nat.le_of_ble_eq_true rfl) (L := [zr 2 0, zu, zu]) ⟨rfl, trivial⟩ ?_
      refine wX4_allLoads_0 (by decide) ?_
      refine zC_mono (jX4_weighAll d j) ?_
      rintro r h1 ⟨rfl, ld, j1, f1⟩
      refine ⟨rfl, ?_⟩
      have key : ∀ (f m : Nat), f + m = 12 → zT G (d + 5) mX4_allLoads 8 [zr 2 0, zi (sumP (zlds e S) m), zi (nI m)] [] h1 (zJ S c e N (sumP (zlds e S) 12)) := by
        intro f
        induction f with
        | zero =>
          intro m hm
          have e : m = 12 := by omega
          subst e
          refine wX4_allLoads_8 (by decide) ?_
          exact br_t (by decide) ⟨rfl, j1⟩
        | succ f ih =>
          intro m hm
          have hm' : m < 12 := by omega
          refine wX4_allLoads_8 (by decide) ?_
          refine br_f (nI_ge (a := m) (b := 12) (by omega) (by decide)) ?_
          rw [j1.st6, hasI_iff j.lt (show m < 32 by omega), nI_1, nI_cl (show m ≤ 4096 by omega), ld m hm']
          have IH := ih (m + 1) (by omega)
          rw [sumP] at IH
          refine ⟨fun t => ?_, fun t => ⟨vpn hm' (by decide), IH⟩⟩
          rw [lds_none e (eq_false_of_ne_true t), zadd0] at IH
          exact IH
      exact key 12 0 (by omega)
    refine zC_mono al ?_
    rintro r h1 ⟨rfl, j1⟩
    exact ⟨_, rfl, rfl, j1⟩
  rw [if_neg z]
  exact ⟨fun z => ⟨by rw [if_pos z], j⟩, fun z => ⟨by rw [if_neg z], j⟩⟩
theorem pX12_count {G : ZG} (d : Nat) {h : ZH} {S : Nat} {c e : ZQ5} {N : ZN} (j : JX h S c e N) (x : Int32) : zC G (d + 5) mX12_count [zr 5 0, zi x] h (zJ S c e N (countV e S x)) := by
  refine zC_of (by decide +kernel) (Nat.le_of_ble_eq_true rfl) (L := [zr 5 0, zi x, zu, zu]) ⟨rfl, ⟨rfl, trivial⟩⟩ ?_
  refine wX12_count_0 ?_
  rw [j.m0, j.m.2.2.2.1, bitsI_nI j.lt, z15, bitsI_nI (zand_lt j.lt)]
  unfold countV
  refine ⟨fun z => ⟨by rw [if_pos z], j⟩, fun z => ?_⟩
  rw [if_neg z]
  refine ⟨fun z => ⟨by rw [if_pos z], j⟩, fun z => ?_⟩
  rw [if_neg z]
  refine ⟨fun z => ⟨by rw [if_pos z], j⟩, fun z => ?_⟩
  rw [if_neg z]
  refine ⟨fun z => ?_, fun z => ?_⟩
  · rw [if_pos z]
    have key : ∀ (f m : Nat), f + m = 12 → zT G (d + 5) mX12_count 66 [zr 5 0, zi x, zi (sumP (wIn e S) m), zi (nI m)] [] h (zJ S c e N (sumP (wIn e S) 12)) := by
      intro f
      induction f with
      | zero =>
        intro m hm
        have e : m = 12 := by omega
        subst e
        refine wX12_count_66 ?_
        exact br_t (by decide) ⟨rfl, j⟩
      | succ f ih =>
        intro m hm
        have hm' : m < 12 := by omega
        refine wX12_count_66 ?_
        refine br_f (nI_ge (a := m) (b := 12) (by omega) (by decide)) ?_
        rw [j.m0, hasI_iff j.lt (show m < 32 by omega), nI_1, zadd0]
        have IH := ih (m + 1) (by omega)
        rw [sumP] at IH
        refine ⟨fun t => ?_, fun t => ⟨vpn hm' (by decide), ?_⟩⟩
        · rw [show wIn e S m = 0 from if_neg t, zadd0] at IH
          exact IH
        · rw [show wIn e S m = cW e m from if_pos t, ← j.wk hm' t] at IH
          exact IH
    exact key 12 0 (by omega)
  rw [if_neg z]
  refine ⟨fun z => ?_, fun z => ?_⟩
  · rw [if_pos z]
    refine zC_mono (jX12_loads d j j.lt) ?_
    rintro r h1 ⟨rfl, ld, j1, f1⟩
    refine ⟨rfl, ?_⟩
    have key : ∀ (f m : Nat), f + m = 12 → zT G (d + 5) mX12_count 112 [zr 5 0, zi x, zi (sumP (zlds e S) m), zi (nI m)] [] h1 (zJ S c e N (sumP (zlds e S) 12)) := by
      intro f
      induction f with
      | zero =>
        intro m hm
        have e : m = 12 := by omega
        subst e
        refine wX12_count_112 ?_
        exact br_t (by decide) ⟨rfl, j1⟩
      | succ f ih =>
        intro m hm
        have hm' : m < 12 := by omega
        refine wX12_count_112 ?_
        refine br_f (nI_ge (a := m) (b := 12) (by omega) (by decide)) ?_
        rw [nI_1, nI_cl (show m ≤ 4096 by omega), ld m hm']
        have IH := ih (m + 1) (by omega)
        rw [sumP] at IH
        exact ⟨vpn hm' (by decide), IH⟩
    exact key 12 0 (by omega)
  rw [if_neg z]
  exact ⟨fun z => ⟨by rw [if_pos z], j⟩, fun z => ⟨by rw [if_neg z], j⟩⟩
