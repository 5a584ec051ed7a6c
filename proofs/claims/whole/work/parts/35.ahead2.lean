/-! ===== looking ahead, both sides: together, twins, depends ===== -/
def togStep (ok : Nat → Nat → Bool) (a b : Nat) (st : Nat × Int32) : Nat × Int32 := if ok a b = true then (st.1 + 1, if st.1 = 0 then 100 * nI a + nI b else st.2) else st
def togIn (ok : Nat → Nat → Bool) (a : Nat) : Nat → Nat → Nat × Int32 → Nat × Int32
  | _, 0, st => st
  | b, f + 1, st => togIn ok a (b + 1) f (togStep ok a b st)
def togOut (ok : Nat → Nat → Bool) : Nat → Nat → Nat × Int32 → Nat × Int32
  | _, 0, st => st
  | a, f + 1, st => togOut ok (a + 1) f (togIn ok a (a + 1) (11 - a) st)
theorem togStep_keep (ok : Nat → Nat → Bool) (a b : Nat) {st : Nat × Int32} (h : st.1 ≠ 0) : (togStep ok a b st).1 ≠ 0 ∧ (togStep ok a b st).2 = st.2 := by
  unfold togStep
  split
  · exact ⟨by simp, by simp [h]⟩
  · exact ⟨h, rfl⟩
theorem togIn_keep (ok : Nat → Nat → Bool) (a : Nat) : ∀ (f b : Nat) {st : Nat × Int32}, st.1 ≠ 0 → (togIn ok a b f st).1 ≠ 0 ∧ (togIn ok a b f st).2 = st.2 := by
  intro f
  induction f with
  | zero => intro b st h; exact ⟨h, rfl⟩
  | succ f ih =>
    intro b st h
    have q := togStep_keep ok a b h
    have r := ih (b + 1) q.1
    exact ⟨r.1, r.2.trans q.2⟩
theorem togOut_keep (ok : Nat → Nat → Bool) : ∀ (f a : Nat) {st : Nat × Int32}, st.1 ≠ 0 → (togOut ok a f st).1 ≠ 0 ∧ (togOut ok a f st).2 = st.2 := by
  intro f
  induction f with
  | zero => intro b st h; exact ⟨h, rfl⟩
  | succ f ih =>
    intro a st h
    have q := togIn_keep ok a (11 - a) (a + 1) h
    have r := ih (a + 1) q.1
    exact ⟨r.1, r.2.trans q.2⟩
def pairOk (e : ZQ5) (S : Nat) (k : Int32) (a b : Nat) : Bool := ((safeN e S).testBit a && (safeN e S).testBit b) && decide (k ≤ nI (fallN e S (2 ^ a ||| 2 ^ b)))
theorem zpair {X a b : Nat} (hX : X < 4096) (ha : a < 12) (hb : b < 12) : nI X &&& ((1 : Int32) <<< (nI a &&& 31) ||| (1 : Int32) <<< (nI b &&& 31)) = ((1 : Int32) <<< (nI a &&& 31) ||| (1 : Int32) <<< (nI b &&& 31)) ↔ X.testBit a = true ∧ X.testBit b = true := by
  rw [zi_sh ha, zi_sh hb, zi_or, zi_and, zi_inj (zand_lt hX) (zor_lt (zp_lt ha) (zp_lt hb))]
  constructor
  · intro h
    have q := fun p => congrArg (fun n => Nat.testBit n p) h
    simp only [Nat.testBit_and, Nat.testBit_or, zp_bit] at q
    have qa := q a
    have qb := q b
    simp at qa qb
    exact ⟨qa, qb⟩
  · rintro ⟨h1, h2⟩
    apply Nat.eq_of_testBit_eq
    intro p
    simp only [Nat.testBit_and, Nat.testBit_or, zp_bit]
    by_cases z : a = p
    · subst z; simp [h1]
    · by_cases z2 : b = p
      · subst z2; simp [h2]
      · simp [z, z2]
def togV (e : ZQ5) (S : Nat) (k w : Int32) : Int32 := if 1 ≤ k ∧ k ≤ 12 then (if 0 ≤ w ∧ w ≤ 1 then (if w = 0 then nI (togOut (pairOk e S k) 0 12 (0, -4)).1 else (togOut (pairOk e S k) 0 12 (0, -4)).2) else -1) else -1
set_option maxHeartbeats 1000000 in
theorem jX3_pairsThatFell {G : ZG} (d : Nat) {h : ZH} {S : Nat} {c e : ZQ5} {N : ZN} (j : JX h S c e N) (k : Int32) {w : Int32} (hw : w = 0 ∨ w = 1) : zC G (d + 7) mX3_pairsThatFell [zr 1 0, zi k, zi w] h (zJ S c e N (if w = 0 then nI (togOut (pairOk e S k) 0 12 (0, -4)).1 else (togOut (pairOk e S k) 0 12 (0, -4)).2)) := by
  refine zC_of (by decide +kernel) (Nat.le_of_ble_eq_true rfl) (L := [zr 1 0, zi k, zi w, zu, zu, zu, zu, zu]) ⟨rfl, ⟨rfl, ⟨rfl, trivial⟩⟩⟩ ?_
  refine wX3_pairsThatFell_0 ?_
  refine zC_mono (jX3_safeOnes d j) ?_
  rintro r h0 ⟨rfl, j0⟩
  refine ⟨_, rfl, ?_⟩
  have sl : safeN e S < 4096 := zms_lt _
  let F := togOut (pairOk e S k) 0 12 (0, -4)
  have key : ∀ (f a : Nat), a + f = 12 → ∀ (st : Nat × Int32) (h1 : ZH), JX h1 S c e N → (w = 0 ∨ st = (0, -4)) → togOut (pairOk e S k) a f st = F → zT G (d + 7) mX3_pairsThatFell 11 [zr 1 0, zi k, zi w, zi (nI (safeN e S)), zi (nI st.1), zi (nI a), zu, zu] [] h1 (zJ S c e N (if w = 0 then nI F.1 else F.2)) := by
    intro f
    induction f with
    | zero =>
      intro a ha st h1 j1 hs hF
      have e : a = 12 := by omega
      subst e
      refine wX3_pairsThatFell_11 ?_
      have hF' : st = F := hF
      refine br_t (by decide) ⟨fun q => ⟨?_, j1⟩, fun q => ⟨?_, j1⟩⟩
      · rw [if_pos q, ← hF']
      · rw [if_neg q, ← hF', hs.resolve_left q]
    | succ f ih =>
      intro a ha st h1 j1 hs hF
      have ha' : a < 12 := by omega
      refine wX3_pairsThatFell_11 ?_
      refine br_f (nI_ge (a := a) (b := 12) (by omega) (by decide)) ?_
      rw [nI_1]
      have inner : ∀ (g b : Nat), b + g = 12 → ∀ (st : Nat × Int32) (h2 : ZH), JX h2 S c e N → (w = 0 ∨ st = (0, -4)) → togOut (pairOk e S k) (a + 1) f (togIn (pairOk e S k) a b g st) = F → zT G (d + 7) mX3_pairsThatFell 24 [zr 1 0, zi k, zi w, zi (nI (safeN e S)), zi (nI st.1), zi (nI a), zi (nI b), zu] [] h2 (zJ S c e N (if w = 0 then nI F.1 else F.2)) := by
        intro g
        induction g with
        | zero =>
          intro b hb st h2 j2 hs hF
          have e : b = 12 := by omega
          subst e
          refine wX3_pairsThatFell_24 ?_
          refine br_t (by decide) ?_
          rw [nI_1]
          exact ih (a + 1) (by omega) st h2 j2 hs hF
        | succ g ih2 =>
          intro b hb st h2 j2 hs hF
          have hb' : b < 12 := by omega
          refine wX3_pairsThatFell_24 ?_
          refine br_f (nI_ge (a := b) (b := 12) (by omega) (by decide)) ?_
          intro y ey
          have IH := ih2 (b + 1) (by omega)
          rw [nI_1, ey, zpair sl ha' hb']
          refine ⟨fun t => ?_, fun t => ?_⟩
          · have z : togStep (pairOk e S k) a b st = st := by
              unfold togStep
              rw [if_neg]
              unfold pairOk
              intro q
              simp only [Bool.and_eq_true] at q
              exact t q.1
            refine IH st h2 j2 hs ?_
            rw [← hF, togIn, z]
          · rw [zi_sh ha', zi_sh hb', zi_or]
            refine zC_mono (jX3_countWithout d j2) ?_
            rintro r h3 ⟨rfl, j3⟩
            refine ⟨_, rfl, fun q => ?_, fun q => ?_⟩
            · have ok : pairOk e S k a b = true := by unfold pairOk; simp [t, q]
              have z : togStep (pairOk e S k) a b st = (st.1 + 1, if st.1 = 0 then 100 * nI a + nI b else st.2) := by unfold togStep; rw [if_pos ok]
              rw [togIn, z] at hF
              refine ⟨fun w0 => ?_, fun w0 => ⟨?_, j3⟩⟩
              · rw [nI_1]
                exact IH _ h3 j3 (Or.inl w0) hF
              · rw [if_neg w0, ← hF]
                have es := hs.resolve_left w0
                have k1 := togIn_keep (pairOk e S k) a g (b + 1) (st := (st.1 + 1, if st.1 = 0 then 100 * nI a + nI b else st.2)) (by simp)
                have k2 := togOut_keep (pairOk e S k) f (a + 1) k1.1
                rw [k2.2, k1.2, es]
                rfl
            · have z : togStep (pairOk e S k) a b st = st := by
                unfold togStep
                rw [if_neg]
                unfold pairOk
                intro w
                simp only [Bool.and_eq_true, decide_eq_true_eq] at w
                exact q w.2
              refine IH st h3 j3 hs ?_
              rw [← hF, togIn, z]
      refine inner (11 - a) (a + 1) (by omega) st h1 j1 hs hF
  exact key 12 0 (by omega) (0, -4) h0 j0 (Or.inr rfl) rfl
theorem pX11_together {G : ZG} (d : Nat) {h : ZH} {S : Nat} {c e : ZQ5} {N : ZN} (j : JX h S c e N) (k w : Int32) : zC G (d + 8) mX11_together [zr 0 0, zi k, zi w] h (zJ S c e N (togV e S k w)) := by
  refine zC_of (by decide +kernel) (Nat.le_of_ble_eq_true rfl) (L := [zr 0 0, zi k, zi w]) ⟨rfl, ⟨rfl, ⟨rfl, trivial⟩⟩⟩ ?_
  refine wX11_together_0 ?_
  unfold togV
  refine ⟨fun a => ⟨by rw [if_neg a], j⟩, fun a => ⟨fun b => ⟨fun z => ?_, fun z => ?_⟩, fun b => ⟨by rw [if_pos a, if_neg b], j⟩⟩⟩
  · rw [if_pos a, if_pos b, if_pos ((n01 b).resolve_right z)]
    refine zC_mono (jX3_pairsThatFell d j k (Or.inl rfl)) ?_
    rintro r h' ⟨rfl, j'⟩
    exact ⟨_, rfl, rfl, j'⟩
  · rw [if_pos a, if_pos b, if_neg (by rw [z]; decide)]
    refine zC_mono (jX3_pairsThatFell d j k (Or.inr rfl)) ?_
    rintro r h' ⟨rfl, j'⟩
    exact ⟨_, rfl, rfl, j'⟩
set_option maxHeartbeats 1000000 in
theorem pX12_together {G : ZG} (d : Nat) {h : ZH} {S : Nat} {c e : ZQ5} {N : ZN} (j : JX h S c e N) (k w : Int32) : zC G (d + 9) mX12_together [zr 5 0, zi k, zi w] h (zJ S c e N (togV e S k w)) := by
  refine zC_of (by decide +kernel) (Nat.le_of_ble_eq_true rfl) (L := [zr 5 0, zi k, zi w, zu, zu, zu, zu, zu]) ⟨rfl, ⟨rfl, ⟨rfl, trivial⟩⟩⟩ ?_
  refine wX12_together_0 ?_
  unfold togV
  refine ⟨fun a => ⟨by rw [if_neg a], j⟩, fun a => ⟨fun b => ?_, fun b => ⟨by rw [if_pos a, if_neg b], j⟩⟩⟩
  rw [if_pos a, if_pos b, j.m0]
  refine zC_mono (jX12_safeOf d j j.lt) ?_
  rintro r h0 ⟨rfl, j0, _⟩
  refine ⟨_, rfl, ?_⟩
  have sl : safeN e S < 4096 := zms_lt _
  let F := togOut (pairOk e S k) 0 12 (0, -4)
  have key : ∀ (f a : Nat), a + f = 12 → ∀ (st : Nat × Int32) (h1 : ZH), JX h1 S c e N → st.1 ≤ 12 * a → togOut (pairOk e S k) a f st = F → zT G (d + 9) mX12_together 42 [zr 5 0, zi k, zi w, zi (nI (safeN e S)), zi (nI st.1), zi st.2, zi (nI a), zu] [] h1 (zJ S c e N (if w = 0 then nI F.1 else F.2)) := by
    intro f
    induction f with
    | zero =>
      intro a ha st h1 j1 hs hF
      have e : a = 12 := by omega
      subst e
      refine wX12_together_42 ?_
      have hF' : st = F := hF
      refine br_t (by decide) ⟨fun q => ⟨?_, j1⟩, fun q => ⟨?_, j1⟩⟩
      · rw [if_neg q, ← hF']
      · rw [if_pos q, ← hF']
    | succ f ih =>
      intro a ha st h1 j1 hs hF
      have ha' : a < 12 := by omega
      refine wX12_together_42 ?_
      refine br_f (nI_ge (a := a) (b := 12) (by omega) (by decide)) ?_
      rw [nI_1]
      have inner : ∀ (g b : Nat), b + g = 12 → ∀ (st : Nat × Int32) (h2 : ZH), JX h2 S c e N → st.1 ≤ 12 * a + b → togOut (pairOk e S k) (a + 1) f (togIn (pairOk e S k) a b g st) = F → zT G (d + 9) mX12_together 55 [zr 5 0, zi k, zi w, zi (nI (safeN e S)), zi (nI st.1), zi st.2, zi (nI a), zi (nI b)] [] h2 (zJ S c e N (if w = 0 then nI F.1 else F.2)) := by
        intro g
        induction g with
        | zero =>
          intro b hb st h2 j2 hs hF
          have e : b = 12 := by omega
          subst e
          refine wX12_together_55 ?_
          refine br_t (by decide) ?_
          rw [nI_1]
          exact ih (a + 1) (by omega) st h2 j2 (by omega) hF
        | succ g ih2 =>
          intro b hb st h2 j2 hs hF
          have hb' : b < 12 := by omega
          refine wX12_together_55 ?_
          refine br_f (nI_ge (a := b) (b := 12) (by omega) (by decide)) ?_
          have IH := ih2 (b + 1) (by omega)
          rw [nI_1, hasI_iff sl (show a < 32 by omega), hasI_iff sl (show b < 32 by omega)]
          have no : pairOk e S k a b ≠ true → togStep (pairOk e S k) a b st = st := fun q => by unfold togStep; rw [if_neg q]
          refine ⟨fun t => ?_, fun t => ⟨fun t2 => ?_, fun t2 => ?_⟩⟩
          · refine IH st h2 j2 (by omega) ?_
            rw [← hF, togIn, no (by unfold pairOk; simp [t])]
          · refine IH st h2 j2 (by omega) ?_
            rw [← hF, togIn, no (by unfold pairOk; simp [t2])]
          · rw [zi_sh ha', zi_sh hb', zi_or, j2.m0]
            refine zC_mono (jX12_fallsOf (d + 1) j2 j.lt) ?_
            rintro r h3 ⟨rfl, j3, _⟩
            refine ⟨_, rfl, fun q => ?_, fun q => ?_⟩
            · have ok : pairOk e S k a b = true := by unfold pairOk; simp [t, t2, q]
              have z : togStep (pairOk e S k) a b st = (st.1 + 1, if st.1 = 0 then 100 * nI a + nI b else st.2) := by unfold togStep; rw [if_pos ok]
              rw [togIn, z] at hF
              have n0 : nI st.1 = 0 ↔ st.1 = 0 := zn0 (by omega)
              have := IH _ h3 j3 (by show st.1 + 1 ≤ _; omega) hF
              rw [nI_1, n0]
              refine ⟨fun w0 => ?_, fun w0 => ?_⟩
              · rw [if_neg w0] at this
                exact this
              · rw [if_pos w0] at this
                exact this
            · refine IH st h3 j3 (by omega) ?_
              rw [← hF, togIn, no (by unfold pairOk; simp [q])]
      refine inner (11 - a) (a + 1) (by omega) st h1 j1 (by omega) hF
  exact key 12 0 (by omega) (0, -4) h0 j0 (by decide) rfl
/-- twins -/
def twin1 (e : ZQ5) (S a b : Nat) : Bool := (S.testBit a && S.testBit b) && decide (zsd (zsd (stl e (zsd S (2 ^ a)) ^^^ stl e (zsd S (2 ^ b))) (2 ^ a)) (2 ^ b) = 0)
def twIn (ok : Nat → Nat → Bool) (a : Nat) : Nat → Nat → Int32 → Int32
  | _, 0, n => n
  | b, f + 1, n => twIn ok a (b + 1) f (if ok a b = true then n + 1 else n)
def twOut (ok : Nat → Nat → Bool) : Nat → Nat → Int32 → Int32
  | _, 0, n => n
  | a, f + 1, n => twOut ok (a + 1) f (twIn ok a (a + 1) (11 - a) n)
theorem zsd_or {X A B : Nat} (hX : X < 4096) : zsd X (A ||| B) = zsd (zsd X A) B := by
  refine zs_ext (zsd_lt hX) (zsd_lt (zsd_lt hX)) fun p hp => ?_
  rw [zsd_bit hX, zsd_bit (zsd_lt hX), zsd_bit hX, Nat.testBit_or]
  cases X.testBit p <;> cases A.testBit p <;> cases B.testBit p <;> rfl
theorem jX3_areTwins {G : ZG} (d : Nat) {h : ZH} {S a b : Nat} {c e : ZQ5} {N : ZN} (j : JX h S c e N) : zC G (d + 5) mX3_areTwins [zr 1 0, zi (nI a), zi (nI b)] h (zJ S c e N (zb (zsd (zsd (stl e (zsd S a) ^^^ stl e (zsd S b)) a) b = 0))) := by
  refine zC_of (by decide +kernel) (Nat.le_of_ble_eq_true rfl) (L := [zr 1 0, zi (nI a), zi (nI b), zu]) ⟨rfl, ⟨rfl, ⟨rfl, trivial⟩⟩⟩ ?_
  refine wX3_areTwins_0 ?_
  rw [j.st6, zi_not j.lt]
  refine zC_mono (jX3_leftOf d j (zsd_le j.lt)) ?_
  rintro r h1 ⟨rfl, j1, _⟩
  refine ⟨_, rfl, ?_⟩
  rw [j1.st6, zi_not j.lt]
  refine zC_mono (jX3_leftOf d j1 (zsd_le j.lt)) ?_
  rintro r h2 ⟨rfl, j2, _⟩
  refine ⟨_, rfl, ?_⟩
  have hx : stl e (zsd S a) ^^^ stl e (zsd S b) < 4096 := zxor_lt (stl_lt e (zsd_lt j.lt)) (stl_lt e (zsd_lt j.lt))
  rw [fb_xorI, zi_or, zi_not hx, zn0 (zsd_lt hx), zsd_or hx]
  exact ⟨fun q => ⟨by rw [zb_f q], j2⟩, fun q => ⟨by rw [zb_t q], j2⟩⟩
theorem jX3_twinPairs {G : ZG} (d : Nat) {h : ZH} {S : Nat} {c e : ZQ5} {N : ZN} (j : JX h S c e N) : zC G (d + 6) mX3_twinPairs [zr 1 0] h (zJ S c e N (twOut (twin1 e S) 0 12 0)) := by
  refine zC_of (by decide +kernel) (Nat.le_of_ble_eq_true rfl) (L := [zr 1 0, zu, zu, zu]) ⟨rfl, trivial⟩ ?_
  refine wX3_twinPairs_0 ?_
  let F := twOut (twin1 e S) 0 12 0
  have key : ∀ (f a : Nat), a + f = 12 → ∀ (n : Int32) (h1 : ZH), JX h1 S c e N → twOut (twin1 e S) a f n = F → zT G (d + 6) mX3_twinPairs 4 [zr 1 0, zi n, zi (nI a), zu] [] h1 (zJ S c e N F) := by
    intro f
    induction f with
    | zero =>
      intro a ha n h1 j1 hF
      have e : a = 12 := by omega
      subst e
      refine wX3_twinPairs_4 ?_
      refine br_t (by decide) ⟨?_, j1⟩
      rw [← hF]; rfl
    | succ f ih =>
      intro a ha n h1 j1 hF
      have ha' : a < 12 := by omega
      refine wX3_twinPairs_4 ?_
      refine br_f (nI_ge (a := a) (b := 12) (by omega) (by decide)) ?_
      rw [nI_1]
      have inner : ∀ (g b : Nat), b + g = 12 → ∀ (n : Int32) (h2 : ZH), JX h2 S c e N → twOut (twin1 e S) (a + 1) f (twIn (twin1 e S) a b g n) = F → zT G (d + 6) mX3_twinPairs 14 [zr 1 0, zi n, zi (nI a), zi (nI b)] [] h2 (zJ S c e N F) := by
        intro g
        induction g with
        | zero =>
          intro b hb n h2 j2 hF
          have e : b = 12 := by omega
          subst e
          refine wX3_twinPairs_14 ?_
          refine br_t (by decide) ?_
          rw [nI_1]
          exact ih (a + 1) (by omega) n h2 j2 hF
        | succ g ih2 =>
          intro b hb n h2 j2 hF
          have hb' : b < 12 := by omega
          refine wX3_twinPairs_14 ?_
          refine br_f (nI_ge (a := b) (b := 12) (by omega) (by decide)) ?_
          have IH := ih2 (b + 1) (by omega)
          rw [nI_1, j2.st6, hasI_iff j.lt (show a < 32 by omega), hasI_iff j.lt (show b < 32 by omega)]
          rw [twIn] at hF
          refine ⟨fun t => ?_, fun t => ⟨fun t2 => ?_, fun t2 => ?_⟩⟩
          · rw [if_neg (by unfold twin1; simp [t])] at hF
            exact IH n h2 j2 hF
          · rw [if_neg (by unfold twin1; simp [t2])] at hF
            exact IH n h2 j2 hF
          · rw [zi_sh ha', zi_sh hb']
            refine zC_mono (jX3_areTwins d j2) ?_
            rintro r h3 ⟨rfl, j3⟩
            refine ⟨_, rfl, ?_⟩
            rw [zb_eq0]
            refine ⟨fun q => ?_, fun q => ?_⟩
            · rw [if_neg (by unfold twin1; simp [q])] at hF
              exact IH n h3 j3 hF
            · have q' := Classical.not_not.mp q
              rw [if_pos (by unfold twin1; simp [t, t2, q'])] at hF
              exact IH _ h3 j3 hF
      exact inner (11 - a) (a + 1) (by omega) n h1 j1 hF
  exact key 12 0 (by omega) 0 h j rfl
theorem pX11_twins {G : ZG} (d : Nat) {h : ZH} {S : Nat} {c e : ZQ5} {N : ZN} (j : JX h S c e N) : zC G (d + 7) mX11_twins [zr 0 0] h (zJ S c e N (twOut (twin1 e S) 0 12 0)) := by
  refine zC_of (by decide +kernel) (Nat.le_of_ble_eq_true rfl) (L := [zr 0 0]) ⟨rfl, trivial⟩ ?_
  refine wX11_twins_0 ?_
  refine zC_mono (jX3_twinPairs d j) ?_
  rintro r h' ⟨rfl, j'⟩
  exact ⟨_, rfl, rfl, j'⟩
theorem zadd0 (x : Int32) : x + 0 = x := Int32.add_zero x
theorem pX12_twins {G : ZG} (d : Nat) {h : ZH} {S : Nat} {c e : ZQ5} {N : ZN} (j : JX h S c e N) : zC G (d + 7) mX12_twins [zr 5 0] h (zJ S c e N (twOut (twin1 e S) 0 12 0)) := by
  refine zC_of (by decide +kernel) (Nat.le_of_ble_eq_true rfl) (L := [zr 5 0, zu, zu, zu, zu]) ⟨rfl, trivial⟩ ?_
  refine wX12_twins_0 ?_
  let F := twOut (twin1 e S) 0 12 0
  have key : ∀ (f a : Nat), a + f = 12 → ∀ (n : Int32) (h1 : ZH), JX h1 S c e N → twOut (twin1 e S) a f n = F → zT G (d + 7) mX12_twins 4 [zr 5 0, zi n, zi (nI a), zu, zu] [] h1 (zJ S c e N F) := by
    intro f
    induction f with
    | zero =>
      intro a ha n h1 j1 hF
      have e : a = 12 := by omega
      subst e
      refine wX12_twins_4 ?_
      refine br_t (by decide) ⟨?_, j1⟩
      rw [← hF]; rfl
    | succ f ih =>
      intro a ha n h1 j1 hF
      have ha' : a < 12 := by omega
      refine wX12_twins_4 ?_
      refine br_f (nI_ge (a := a) (b := 12) (by omega) (by decide)) ?_
      rw [nI_1]
      have inner : ∀ (g b : Nat), b + g = 12 → ∀ (n : Int32) (h2 : ZH), JX h2 S c e N → twOut (twin1 e S) (a + 1) f (twIn (twin1 e S) a b g n) = F → zT G (d + 7) mX12_twins 14 [zr 5 0, zi n, zi (nI a), zi (nI b), zu] [] h2 (zJ S c e N F) := by
        intro g
        induction g with
        | zero =>
          intro b hb n h2 j2 hF
          have e : b = 12 := by omega
          subst e
          refine wX12_twins_14 ?_
          refine br_t (by decide) ?_
          rw [nI_1]
          exact ih (a + 1) (by omega) n h2 j2 hF
        | succ g ih2 =>
          intro b hb n h2 j2 hF
          have hb' : b < 12 := by omega
          refine wX12_twins_14 ?_
          refine br_f (nI_ge (a := b) (b := 12) (by omega) (by decide)) ?_
          have IH := ih2 (b + 1) (by omega)
          rw [nI_1, j2.m0, hasI_iff j.lt (show a < 32 by omega), hasI_iff j.lt (show b < 32 by omega)]
          rw [twIn] at hF
          refine ⟨fun t => ?_, fun t => ⟨fun t2 => ?_, fun t2 => ?_⟩⟩
          · rw [if_neg (by unfold twin1; simp [t])] at hF
            exact IH n h2 j2 hF
          · rw [zi_sh ha', zi_sh hb']
            refine zC_mono (jX12_leftWithout d j2 j.lt) ?_
            rintro r h3 ⟨rfl, _, j3, _⟩
            refine ⟨_, rfl, ?_⟩
            rw [j3.m0]
            refine zC_mono (jX12_leftWithout d j3 j.lt) ?_
            rintro r h4 ⟨rfl, _, j4, _⟩
            refine ⟨_, rfl, ?_⟩
            have hx : stl e (zsd S (2 ^ a)) ^^^ stl e (zsd S (2 ^ b)) < 4096 := zxor_lt (stl_lt e (zsd_lt j.lt)) (stl_lt e (zsd_lt j.lt))
            rw [fb_xorI, zi_not hx, zi_not (zsd_lt hx), zn0 (zsd_lt (zsd_lt hx)), zadd0]
            refine ⟨fun q => ?_, fun q => ?_⟩
            · rw [if_neg (by unfold twin1; simp [q])] at hF
              exact IH n h4 j4 hF
            · rw [if_pos (by unfold twin1; simp [t, t2, q])] at hF
              exact IH _ h4 j4 hF
          · rw [if_neg (by unfold twin1; simp [t2])] at hF
            exact IH n h2 j2 hF
      exact inner (11 - a) (a + 1) (by omega) n h1 j1 hF
  exact key 12 0 (by omega) 0 h j rfl
/-- depends -/
def dep1 (e : ZQ5) (S p q : Nat) : Bool := (decide (q ≠ p) && S.testBit q) && !(stl e (zsd S (2 ^ q))).testBit p
def depV (e : ZQ5) (S : Nat) (x : Int32) : Int32 := if stN S x = 0 then nI (zmk (dep1 e S x.toNatClampNeg) 12) else stN S x
theorem pX11_depends {G : ZG} (d : Nat) {h : ZH} {S : Nat} {c e : ZQ5} {N : ZN} (j : JX h S c e N) (x : Int32) : zC G (d + 7) mX11_depends [zr 0 0, zi x] h (zJ S c e N (depV e S x)) := by
  refine zC_of (by decide +kernel) (Nat.le_of_ble_eq_true rfl) (L := [zr 0 0, zi x, zu]) ⟨rfl, ⟨rfl, trivial⟩⟩ ?_
  refine wX11_depends_0 ?_
  rw [j.stR]
  unfold depV
  refine ⟨fun s => ?_, fun s => ⟨by rw [if_neg s], j⟩⟩
  rw [if_pos s]
  obtain ⟨p, hp, rfl, hb⟩ := stN_0 j.lt s
  rw [nI_cl (show p ≤ 4096 by omega)]
  have sp : zC G (d + 6) mX3_supportsOf [zr 1 0, zi (nI p)] h (zJ S c e N (nI (zmk (dep1 e S p) 12))) := by
    refine zC_of (by decide +kernel) (Nat.le_of_ble_eq_true rfl) (L := [zr 1 0, zi (nI p), zu, zu, zu]) ⟨rfl, ⟨rfl, trivial⟩⟩ ?_
    refine wX3_supportsOf_0 ?_
    have key : ∀ (f m : Nat), f + m = 12 → ∀ h1 : ZH, JX h1 S c e N → zT G (d + 6) mX3_supportsOf 4 [zr 1 0, zi (nI p), zi (nI (zmk (dep1 e S p) m)), zi (nI m), zu] [] h1 (zJ S c e N (nI (zmk (dep1 e S p) 12))) := by
      intro f
      induction f with
      | zero =>
        intro m hm h1 j1
        have e : m = 12 := by omega
        subst e
        refine wX3_supportsOf_4 ?_
        exact br_t (by decide) ⟨rfl, j1⟩
      | succ f ih =>
        intro m hm h1 j1
        have hm' : m < 12 := by omega
        refine wX3_supportsOf_4 ?_
        refine br_f (nI_ge (a := m) (b := 12) (by omega) (by decide)) ?_
        rw [j1.st6, hasI_iff j.lt (show m < 32 by omega), nI_1, zi_inj (show m < 4096 by omega) (show p < 4096 by omega)]
        have IH := ih (m + 1) (by omega)
        refine ⟨fun t => ?_, fun t => ⟨fun t2 => ?_, fun t2 => ?_⟩⟩
        · rw [zmk_no _ (by unfold dep1; simp [t])] at IH
          exact IH h1 j1
        · rw [zmk_no _ (by unfold dep1; simp [t2])] at IH
          exact IH h1 j1
        · rw [zi_sh hm']
          refine zC_mono (jX3_fallenWithout (U := 2 ^ m) d j1) ?_
          rintro r h2 ⟨rfl, j2⟩
          refine ⟨_, rfl, ?_⟩
          have hbit : (zsd (zsd S (2 ^ m)) (stl e (zsd S (2 ^ m)))).testBit p = !(stl e (zsd S (2 ^ m))).testBit p := by
            rw [zsd_bit (zsd_lt j.lt), zsd_bit j.lt, zp_bit, hb]
            simp [t]
          rw [zbit0 (zsd_lt (zsd_lt j.lt)) (show p < 32 by omega), hbit]
          refine ⟨fun q => ?_, fun q => ?_⟩
          · have q' : (stl e (zsd S (2 ^ m))).testBit p = true := by simpa using q
            rw [zmk_no _ (by unfold dep1; simp [q'])] at IH
            exact IH h2 j2
          · have q' : (stl e (zsd S (2 ^ m))).testBit p = false := by simpa using q
            rw [← zi_mk _ hm' (by unfold dep1; simp [t, t2, q']), zi_sh hm'] at IH
            exact IH h2 j2
    exact key 12 0 (by omega) h j
  refine zC_mono sp ?_
  rintro r h' ⟨rfl, j'⟩
  exact ⟨_, rfl, rfl, j'⟩
theorem pX12_depends {G : ZG} (d : Nat) {h : ZH} {S : Nat} {c e : ZQ5} {N : ZN} (j : JX h S c e N) (x : Int32) : zC G (d + 7) mX12_depends [zr 5 0, zi x] h (zJ S c e N (depV e S x)) := by
  refine zC_of (by decide +kernel) (Nat.le_of_ble_eq_true rfl) (L := [zr 5 0, zi x, zu, zu, zu]) ⟨rfl, ⟨rfl, trivial⟩⟩ ?_
  refine wX12_depends_0 ?_
  rw [j.stW]
  unfold depV
  refine ⟨fun s => ?_, fun s => ⟨by rw [if_neg s], j⟩⟩
  rw [if_pos s]
  obtain ⟨p, hp, rfl, hb⟩ := stN_0 j.lt s
  rw [nI_cl (show p ≤ 4096 by omega), s]
  have key : ∀ (f m : Nat), f + m = 12 → ∀ h1 : ZH, JX h1 S c e N → zT G (d + 7) mX12_depends 17 [zr 5 0, zi (nI p), zi 0, zi (nI (zmk (dep1 e S p) m)), zi (nI m)] [] h1 (zJ S c e N (nI (zmk (dep1 e S p) 12))) := by
    intro f
    induction f with
    | zero =>
      intro m hm h1 j1
      have e : m = 12 := by omega
      subst e
      refine wX12_depends_17 ?_
      exact br_t (by decide) ⟨rfl, j1⟩
    | succ f ih =>
      intro m hm h1 j1
      have hm' : m < 12 := by omega
      refine wX12_depends_17 ?_
      refine br_f (nI_ge (a := m) (b := 12) (by omega) (by decide)) ?_
      rw [j1.m0, hasI_iff j.lt (show m < 32 by omega), nI_1, zi_inj (show m < 4096 by omega) (show p < 4096 by omega), zor_0]
      have IH := ih (m + 1) (by omega)
      refine ⟨fun t => ?_, fun t => ⟨fun t2 => ?_, fun t2 => ?_⟩⟩
      · rw [zmk_no _ (by unfold dep1; simp [t])] at IH
        exact IH h1 j1
      · rw [zmk_no _ (by unfold dep1; simp [t2])] at IH
        exact IH h1 j1
      · rw [zi_sh hm']
        refine zC_mono (jX12_leftWithout (U := 2 ^ m) d j1 j.lt) ?_
        rintro r h2 ⟨rfl, _, j2, _⟩
        refine ⟨_, rfl, ?_⟩
        rw [hasI_iff (stl_lt e (zsd_lt j.lt)) (show p < 32 by omega)]
        refine ⟨fun q => ?_, fun q => ?_⟩
        · rw [zmk_no _ (by unfold dep1; simp [q])] at IH
          exact IH h2 j2
        · rw [← zi_mk _ hm' (by unfold dep1; simp [t, t2, q]), zi_sh hm'] at IH
          exact IH h2 j2
  exact key 12 0 (by omega) h j
