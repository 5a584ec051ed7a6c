/-! ===== longest, both sides ===== -/
theorem jX3_isSafeF {G : ZG} (d : Nat) {h : ZH} {S T p : Nat} {c e : ZQ5} {N : ZN} (j : JX h S c e N) (hT : zle T S) (hp : p < 12) : zC G (d + 5) mX3_isSafeIn [zr 1 0, zi (nI T), zi (nI p)] h (fun r h' => r = some (zi (zb (safe1 e T p = true))) ∧ JX h' S c e N ∧ zfx eF h h') := by
  refine zC_of (by decide +kernel) (Nat.le_of_ble_eq_true rfl) (L := [zr 1 0, zi (nI T), zi (nI p), zu]) ⟨rfl, ⟨rfl, ⟨rfl, trivial⟩⟩⟩ ?_
  have hT4 := zle_lt hT j.lt
  refine wX3_isSafeIn_0 ?_
  rw [zsd_p hT4 hp, zi_inj (zsd_lt hT4) hT4, zsd_self hT4 hp]
  refine ⟨fun t => ⟨?_, j, zfx.rf _ _⟩, fun t => ?_⟩
  · rw [zb_f (by unfold safe1; simp [t])]
  · refine zC_mono (jX3_leftOf d j (zle_sd hT4 hT)) ?_
    rintro r h' ⟨rfl, j', f'⟩
    refine ⟨_, rfl, ?_⟩
    rw [zi_inj (stl_lt e (zsd_lt hT4)) (zsd_lt hT4)]
    have t' : T.testBit p = true := by simpa using t
    refine ⟨fun q => ⟨?_, j', f'⟩, fun q => ⟨?_, j', f'⟩⟩
    · rw [zb_f (by unfold safe1; simp [q])]
    · rw [zb_t (by unfold safe1; simp [q, t'])]
/-- how many can be taken one behind the other, by fuel -/
def longF (e : ZQ5) : Nat → Nat → Nat
  | 0, _ => 0
  | f + 1, T => maxN 0 (fun p => if safe1 e T p = true then 1 + longF e f (zsd T (2 ^ p)) else 0) 12
def lngU (e : ZQ5) (f T p : Nat) : Nat := if safe1 e T p = true then 1 + longF e f (zsd T (2 ^ p)) else 0
theorem longF_s (e : ZQ5) (f T : Nat) : longF e (f + 1) T = maxN 0 (lngU e f T) 12 := rfl
theorem safe1_bit {e : ZQ5} {T p : Nat} (h : safe1 e T p = true) : T.testBit p = true ∧ stl e (zsd T (2 ^ p)) = zsd T (2 ^ p) := by
  unfold safe1 at h
  simp only [Bool.and_eq_true, decide_eq_true_eq] at h
  exact h
theorem zsd_pc {T p : Nat} (hT : T < 4096) (h : T.testBit p = true) : zpc (zsd T (2 ^ p)) + 1 = zpc T := by
  have hp : p < 12 := by
    apply Classical.byContradiction
    intro q
    rw [zhi hT (by omega)] at h
    cases h
  have hl : zle (2 ^ p) T := fun q hq => by
    rw [zp_bit, decide_eq_true_eq] at hq
    rw [← hq]; exact h
  have a := zpc_sub hl hT
  have b : ∀ p, p < 12 → zpc (2 ^ p) = 1 := by decide
  rw [b p hp] at a
  omega
theorem maxN_cong {a : Nat} {f g : Nat → Nat} : ∀ {n : Nat}, (∀ p, p < n → f p = g p) → maxN a f n = maxN a g n := by
  intro n
  induction n with
  | zero => intro _; rfl
  | succ n ih => intro h; rw [maxN, maxN, ih (fun p hp => h p (by omega)), h n (by omega)]
theorem longF_st (e : ZQ5) : ∀ (f T : Nat), T < 4096 → zpc T < f → longF e f T = longF e (f + 1) T := by
  intro f
  induction f with
  | zero => intro T _ h; exact absurd h (Nat.not_lt_zero _)
  | succ f ih =>
    intro T hT h
    rw [longF_s, longF_s]
    refine maxN_cong fun p hp => ?_
    unfold lngU
    by_cases s : safe1 e T p = true
    · rw [if_pos s, if_pos s]
      have := zsd_pc hT (safe1_bit s).1
      rw [ih _ (zsd_lt hT) (by omega)]
    · rw [if_neg s, if_neg s]
def lng (e : ZQ5) (T : Nat) : Nat := longF e 13 T
theorem lng_s (e : ZQ5) {T : Nat} (hT : T < 4096) : lng e T = maxN 0 (fun p => if safe1 e T p = true then 1 + lng e (zsd T (2 ^ p)) else 0) 12 := by
  have h := longF_st e 13 T hT (by have := zpc_le T; omega)
  unfold lng
  rw [h, longF_s]
  rfl
def lngP (e : ZQ5) (T p : Nat) : Nat := if safe1 e T p = true then 1 + lng e (zsd T (2 ^ p)) else 0
theorem lng_is (e : ZQ5) {T : Nat} (hT : T < 4096) : lng e T = maxN 0 (lngP e T) 12 := lng_s e hT
theorem longF_le (e : ZQ5) : ∀ (f T : Nat), longF e f T ≤ f := by
  intro f
  induction f with
  | zero => intro T; exact Nat.le_refl _
  | succ f ih =>
    intro T
    rw [longF_s]
    refine maxN_le (Nat.zero_le _) (fun p => ?_) 12
    unfold lngU
    split
    · have := ih (zsd T (2 ^ p)); omega
    · exact Nat.zero_le _
theorem lng_le (e : ZQ5) (T : Nat) : lng e T ≤ 13 := longF_le e 13 T
theorem lngP_le (e : ZQ5) (T p : Nat) : lngP e T p ≤ 14 := by
  unfold lngP
  have := lng_le e (zsd T (2 ^ p))
  split <;> omega
/-- what the class keeps of it -/
def WI (e : ZQ5) (h : ZH) : Prop := ∀ T, T < 4096 → h.1 18 0 T = -1 ∨ h.1 18 0 T = nI (lng e T)
theorem WI.fx {e : ZQ5} {h h' : ZH} (w : WI e h) (f : zfx eF h h') : WI e h' := fun T hT => by
  rw [(f 18 0 T (eF_no (by decide) (by decide) (by decide))).1]
  exact w T hT
def eW (k _j : Nat) : Bool := decide (k = 18)
theorem eA_W {k j : Nat} (h : eA k j = false) : eW k j = false := by
  unfold eA at h
  unfold eW
  simp only [Bool.or_eq_false_iff, decide_eq_false_iff_not] at h ⊢
  omega
theorem JX.fW {h h' : ZH} {S : Nat} {c e : ZQ5} {N : ZN} (j : JX h S c e N) (a : zfx eW h h') : JX h' S c e N := j.fm a (fun _ _ => eA_W) (fun _ => by unfold eW; simp) (fun _ => by unfold eW; simp)
theorem n13_le {t : Nat} (h : t ≤ 12) : nI t ≤ 12 := by
  rw [show (12 : Int32) = nI 12 from by decide, nI_leb (by omega) (by omega)]
  exact h
set_option maxHeartbeats 1000000 in
theorem jX3_runFrom {G : ZG} (d : Nat) {S : Nat} {c e : ZQ5} {N : ZN} : ∀ (n T t : Nat) (h : ZH), zpc T ≤ n → t + zpc T ≤ 12 → zle T S → JX h S c e N → WI e h → zC G (d + n + 6) mX3_runFrom [zr 1 0, zi (nI T), zi (nI t)] h (fun r h' => r = some (zi (nI (lng e T))) ∧ JX h' S c e N ∧ WI e h') := by
  intro n
  induction n with
  | zero =>
    intro T t h hn ht hT j w
    have hT4 := zle_lt hT j.lt
    refine zC_of (by decide +kernel) (Nat.le_of_ble_eq_true rfl) (L := [zr 1 0, zi (nI T), zi (nI t), zu, zu]) ⟨rfl, ⟨rfl, ⟨rfl, trivial⟩⟩⟩ ?_
    have v : vp_in (nI T) 4096 := vpn hT4 (by decide)
    refine wX3_runFrom_0 ?_
    refine br_t (n13_le (by omega)) ⟨v, ?_⟩
    rw [nI_cl (show T ≤ 4096 by omega)]
    refine ⟨fun u => ?_, fun u => ⟨v, ?_, j, w⟩⟩
    · have key : ∀ (f m : Nat) (h1 : ZH), f + m = 12 → JX h1 S c e N → WI e h1 → zT G (d + 0 + 6) mX3_runFrom 30 [zr 1 0, zi (nI T), zi (nI t), zi (nI (maxN 0 (lngP e T) m)), zi (nI m)] [] h1 (fun r h' => r = some (zi (nI (lng e T))) ∧ JX h' S c e N ∧ WI e h') := by
        intro f
        induction f with
        | zero =>
          intro m h1 hm j1 w1
          have em : m = 12 := by omega
          subst em
          refine wX3_runFrom_30 ?_
          refine br_t (by decide) ⟨v, ?_⟩
          rw [nI_cl (show T ≤ 4096 by omega), ← lng_is e hT4]
          intro h2 e2
          refine ⟨rfl, by rw [e2]; exact j1.fW (zfx.s1 eW h1 _ rfl), fun U hU => ?_⟩
          rw [e2, zs1_at]
          by_cases z : U = T
          · subst z; rw [if_pos ⟨rfl, rfl, rfl⟩]; exact Or.inr rfl
          · rw [if_neg (fun q => z q.2.2)]; exact w1 U hU
        | succ f ih2 =>
          intro m h1 hm j1 w1
          have hm' : m < 12 := by omega
          refine wX3_runFrom_30 ?_
          refine br_f (nI_ge (a := m) (b := 12) (by omega) (by decide)) ?_
          rw [nI_1]
          refine zC_mono (jX3_isSafeF d j1 hT hm') ?_
          rintro r h2 ⟨rfl, j2, f2⟩
          refine ⟨_, rfl, ?_⟩
          rw [zb_eq0]
          have IH := ih2 (m + 1) h2 (by omega) j2 (w1.fx f2)
          rw [maxN] at IH
          refine ⟨fun q => ?_, fun q => ?_⟩
          · rw [show lngP e T m = 0 from if_neg q, Nat.max_eq_left (Nat.zero_le _)] at IH
            exact IH
          · have s := (safe1_bit (Classical.not_not.mp q)).1
            have := zsd_pc hT4 s
            omega
      exact key 12 0 h (by omega) j w
    · rcases w T hT4 with q | q
      · exact absurd q u
      · rw [q]
  | succ n ih =>
    intro T t h hn ht hT j w
    have hT4 := zle_lt hT j.lt
    refine zC_of (by decide +kernel) (Nat.le_of_ble_eq_true rfl) (L := [zr 1 0, zi (nI T), zi (nI t), zu, zu]) ⟨rfl, ⟨rfl, ⟨rfl, trivial⟩⟩⟩ ?_
    have v : vp_in (nI T) 4096 := vpn hT4 (by decide)
    refine wX3_runFrom_0 ?_
    refine br_t (n13_le (by omega)) ⟨v, ?_⟩
    rw [nI_cl (show T ≤ 4096 by omega)]
    refine ⟨fun u => ?_, fun u => ⟨v, ?_, j, w⟩⟩
    · have key : ∀ (f m : Nat) (h1 : ZH), f + m = 12 → JX h1 S c e N → WI e h1 → zT G (d + (n + 1) + 6) mX3_runFrom 30 [zr 1 0, zi (nI T), zi (nI t), zi (nI (maxN 0 (lngP e T) m)), zi (nI m)] [] h1 (fun r h' => r = some (zi (nI (lng e T))) ∧ JX h' S c e N ∧ WI e h') := by
        intro f
        induction f with
        | zero =>
          intro m h1 hm j1 w1
          have em : m = 12 := by omega
          subst em
          refine wX3_runFrom_30 ?_
          refine br_t (by decide) ⟨v, ?_⟩
          rw [nI_cl (show T ≤ 4096 by omega), ← lng_is e hT4]
          intro h2 e2
          refine ⟨rfl, by rw [e2]; exact j1.fW (zfx.s1 eW h1 _ rfl), fun U hU => ?_⟩
          rw [e2, zs1_at]
          by_cases z : U = T
          · subst z; rw [if_pos ⟨rfl, rfl, rfl⟩]; exact Or.inr rfl
          · rw [if_neg (fun q => z q.2.2)]; exact w1 U hU
        | succ f ih2 =>
          intro m h1 hm j1 w1
          have hm' : m < 12 := by omega
          refine wX3_runFrom_30 ?_
          refine br_f (nI_ge (a := m) (b := 12) (by omega) (by decide)) ?_
          rw [nI_1, nI_1, zsd_p hT4 hm']
          refine zC_mono (jX3_isSafeF (d + (n + 1)) j1 hT hm') ?_
          rintro r h2 ⟨rfl, j2, f2⟩
          refine ⟨_, rfl, ?_⟩
          rw [zb_eq0]
          have IH := ih2 (m + 1)
          rw [maxN] at IH
          refine ⟨fun q => ?_, fun q => ?_⟩
          · rw [show lngP e T m = 0 from if_neg q, Nat.max_eq_left (Nat.zero_le _)] at IH
            exact IH h2 (by omega) j2 (w1.fx f2)
          · have q' := Classical.not_not.mp q
            have s := (safe1_bit q').1
            have pc := zsd_pc hT4 s
            refine zC_mono (ih (zsd T (2 ^ m)) (t + 1) h2 (by omega) (by omega) (zle_sd hT4 hT) j2 (w1.fx f2)) ?_
            rintro r h3 ⟨rfl, j3, w3⟩
            refine ⟨_, rfl, ?_⟩
            have IH3 := IH h3 (by omega) j3 w3
            have b1 := lngP_le e T m
            have b2 : maxN 0 (lngP e T) m ≤ 14 := maxN_le (Nat.zero_le _) (lngP_le e T) m
            rw [show lngP e T m = 1 + lng e (zsd T (2 ^ m)) from if_pos q'] at IH3 b1
            rw [show (1 : Int32) = nI 1 from by decide, nI_add, zmx_n (by omega) (by omega)]
            exact IH3
      exact key 12 0 h (by omega) j w
    · rcases w T hT4 with q | q
      · exact absurd q u
      · rw [q]
theorem W_fill {e : ZQ5} {h h1 : ZH} (e1 : h1 = zsR h 18 0 (zfl (h.1 18 0) (-1) 4096)) : WI e h1 ∧ zfx eW h h1 := by
  refine ⟨fun T hT => Or.inl ?_, ?_⟩
  · rw [e1, zsR_row]
    unfold zfl
    rw [if_pos hT]
  · rw [e1]
    exact zfx.R eW h _ (fun _ => rfl)
/-- the first with which the longest begins -/
def lfst (e : ZQ5) (S : Nat) : Nat → Nat → Int32
  | 0, _ => -4
  | f + 1, p => if safe1 e S p = true ∧ 1 + lng e (zsd S (2 ^ p)) = lng e S then nI p else lfst e S f (p + 1)
def longV (e : ZQ5) (S : Nat) (w : Int32) : Int32 := if 0 ≤ w ∧ w ≤ 1 then (if w = 0 then nI (lng e S) else lfst e S 12 0) else -1
theorem pX11_longest {G : ZG} (d : Nat) {h : ZH} {S : Nat} {c e : ZQ5} {N : ZN} (j : JX h S c e N) (w : Int32) : zC G (d + 20) mX11_longest [zr 0 0, zi w] h (zJ S c e N (longV e S w)) := by
  refine zC_of (by decide +kernel) (Nat.le_of_ble_eq_true rfl) (L := [zr 0 0, zi w]) ⟨rfl, ⟨rfl, trivial⟩⟩ ?_
  refine wX11_longest_0 (d := d + 12) ?_
  unfold longV
  have hS := j.lt
  have pcS := zpc_le S
  refine ⟨fun a => ⟨fun z => ?_, fun z => ?_⟩, fun a => ⟨by rw [if_neg a], j⟩⟩
  · rw [if_pos a, if_neg z]
    have fl : zC G (d + 12 + 7) mX3_firstOfLongest [zr 1 0] h (zJ S c e N (lfst e S 12 0)) := by
      refine zC_of (by decide +kernel) (Nat.le_of_ble_eq_true rfl) (L := [zr 1 0, zu, zu]) ⟨rfl, trivial⟩ ?_
      refine wX3_firstOfLongest_0 ?_
      refine zC_mono (sJ7_fillI (d + 12 + 5) rfl (by decide)) ?_
      rintro r h1 ⟨rfl, e1⟩
      obtain ⟨w1, f1⟩ := W_fill (e := e) e1
      have j1 := j.fW f1
      refine ⟨rfl, ?_⟩
      rw [j1.st6]
      refine zC_mono (jX3_runFrom d 12 S 0 h1 pcS (by omega) (zle_rf S) j1 w1) ?_
      rintro r h2 ⟨rfl, j2, w2⟩
      refine ⟨_, rfl, ?_⟩
      have key : ∀ (f m : Nat) (h3 : ZH), f + m = 12 → JX h3 S c e N → WI e h3 → lfst e S f m = lfst e S 12 0 → zT G (d + 12 + 7) mX3_firstOfLongest 23 [zr 1 0, zi (nI (lng e S)), zi (nI m)] [] h3 (zJ S c e N (lfst e S 12 0)) := by
        intro f
        induction f with
        | zero =>
          intro m h3 hm j3 w3 ho
          have em : m = 12 := by omega
          subst em
          refine wX3_firstOfLongest_23 ?_
          refine br_t (by decide) ⟨?_, j3⟩
          rw [← ho]; rfl
        | succ f ih =>
          intro m h3 hm j3 w3 ho
          have hm' : m < 12 := by omega
          refine wX3_firstOfLongest_23 ?_
          refine br_f (nI_ge (a := m) (b := 12) (by omega) (by decide)) ?_
          rw [j3.st6, nI_1]
          refine zC_mono (jX3_isSafeF (d + 12 + 1) j3 (zle_rf S) hm') ?_
          rintro r h4 ⟨rfl, j4, f4⟩
          refine ⟨_, rfl, ?_⟩
          rw [zb_eq0, j4.st6, zsd_p hS hm']
          rw [lfst] at ho
          refine ⟨fun q => ?_, fun q => ?_⟩
          · have q' := Classical.not_not.mp q
            have pc := zsd_pc hS (safe1_bit q').1
            refine zC_mono (jX3_runFrom d 12 (zsd S (2 ^ m)) 1 h4 (by omega) (by omega) (zsd_le hS) j4 (w3.fx f4)) ?_
            rintro r h5 ⟨rfl, j5, w5⟩
            refine ⟨_, rfl, ?_⟩
            have l1 := lng_le e (zsd S (2 ^ m))
            have l2 := lng_le e S
            rw [show (1 : Int32) = nI 1 from by decide, nI_add, zi_inj (by omega) (by omega)]
            refine ⟨fun y => ?_, fun y => ⟨?_, j5⟩⟩
            · rw [if_neg (fun k => y k.2)] at ho
              exact ih (m + 1) h5 (by omega) j5 w5 ho
            · rw [if_pos ⟨q', y⟩] at ho
              rw [← ho]
          · rw [if_neg (fun k => q k.1)] at ho
            exact ih (m + 1) h4 (by omega) j4 (w3.fx f4) ho
      exact key 12 0 h2 (by omega) j2 w2 rfl
    refine zC_mono fl ?_
    rintro r h' ⟨rfl, j'⟩
    exact ⟨_, rfl, rfl, j'⟩
  · rw [if_pos a, if_pos z]
    have lr : zC G (d + 12 + 7) mX3_longestRun [zr 1 0] h (zJ S c e N (nI (lng e S))) := by
      refine zC_of (by decide +kernel) (Nat.le_of_ble_eq_true rfl) (L := [zr 1 0]) ⟨rfl, trivial⟩ ?_
      refine wX3_longestRun_0 ?_
      refine zC_mono (sJ7_fillI (d + 12 + 5) rfl (by decide)) ?_
      rintro r h1 ⟨rfl, e1⟩
      obtain ⟨w1, f1⟩ := W_fill (e := e) e1
      have j1 := j.fW f1
      refine ⟨rfl, ?_⟩
      rw [j1.st6]
      refine zC_mono (jX3_runFrom d 12 S 0 h1 pcS (by omega) (zle_rf S) j1 w1) ?_
      rintro r h2 ⟨rfl, j2, w2⟩
      exact ⟨_, rfl, rfl, j2⟩
    refine zC_mono lr ?_
    rintro r h' ⟨rfl, j'⟩
    exact ⟨_, rfl, rfl, j'⟩
