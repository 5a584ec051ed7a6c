/-! ===== which, both sides ===== -/
/-- the note of a place in what is left -/
def ntV (e : ZQ5) (T p : Nat) : Int32 := if T.testBit p = true then noteI (cW e p) (zlds e T p) else 50
theorem jX3_noteIn {G : ZG} (d : Nat) {h : ZH} {S T p : Nat} {c e : ZQ5} {N : ZN} (j : JX h S c e N) (hT : zle T S) (hp : p < 12) (ld : ∀ p, p < 12 → h.1 15 0 p = zlds e T p) : zC G (d + 2) mX3_noteIn [zr 1 0, zi (nI T), zi (nI p)] h (fun r h' => r = some (zi (ntV e T p)) ∧ h' = h) := by
  refine zC_of (by decide +kernel) (Nat.le_of_ble_eq_true rfl) (L := [zr 1 0, zi (nI T), zi (nI p)]) ⟨rfl, ⟨rfl, ⟨rfl, trivial⟩⟩⟩ ?_
  refine wX3_noteIn_0 ?_
  rw [zbit0 (zle_lt hT j.lt) (show p < 32 by omega), nI_cl (show p ≤ 4096 by omega), ld p hp]
  refine ⟨fun q => ⟨vpn hp (by decide), ?_, rfl⟩, fun q => ⟨?_, rfl⟩⟩
  · have q' := Classical.not_not.mp q
    unfold ntV
    rw [if_pos q', j.w hp (hT p q')]
  · unfold ntV
    rw [if_neg q]
theorem jX12_noteWithout {G : ZG} (d : Nat) {h : ZH} {S p t : Nat} {c e : ZQ5} {N : ZN} (j : JX h S c e N) (hp : p < 12) (ht : t < 12) : zC G (d + 7) mX12_noteWithout [zr 5 0, zi (nI p), zi (nI t)] h (zJ S c e N (ntV e (stl e (zsd S (2 ^ t))) p)) := by
  refine zC_of (by decide +kernel) (Nat.le_of_ble_eq_true rfl) (L := [zr 5 0, zi (nI p), zi (nI t), zu]) ⟨rfl, ⟨rfl, ⟨rfl, trivial⟩⟩⟩ ?_
  refine wX12_noteWithout_0 ?_
  rw [j.m0, zi_sh ht]
  refine zC_mono (jX12_leftWithout d j j.lt) ?_
  rintro r h1 ⟨rfl, _, j1, _⟩
  refine ⟨_, rfl, ?_⟩
  have hL : zle (stl e (zsd S (2 ^ t))) S := stl_sub j.lt (zle_rf S)
  have hL4 := zle_lt hL j.lt
  refine zC_mono (jX12_loads (d + 2) j1 hL4) ?_
  rintro r h2 ⟨rfl, ld, j2, _⟩
  refine ⟨rfl, ?_⟩
  rw [hasI_iff hL4 (show p < 32 by omega), nI_cl (show p ≤ 4096 by omega), ld p hp]
  unfold ntV
  refine ⟨fun q => ⟨by rw [if_neg q], j2⟩, fun q => ⟨vpn hp (by decide), ?_, j2⟩⟩
  rw [if_pos q, j2.wk hp (hL p q)]
/-- the pairs are as they must be -/
def okPair (E : Nat → Int32) (q : Nat) : Prop := (0 ≤ E (2 * q) ∧ E (2 * q) ≤ 11) ∧ (0 ≤ E (2 * q + 1) ∧ E (2 * q + 1) ≤ 50)
def okAll (E : Nat → Int32) : Nat → Nat → Bool
  | 0, _ => true
  | f + 1, q => decide ((0 ≤ E (2 * q) ∧ E (2 * q) ≤ 11) ∧ (0 ≤ E (2 * q + 1) ∧ E (2 * q + 1) ≤ 50)) && okAll E f (q + 1)
theorem okAll_at {E : Nat → Int32} : ∀ (f q : Nat), okAll E f q = true → ∀ k, q ≤ k → k < q + f → okPair E k := by
  intro f
  induction f with
  | zero => intro q _ k h1 h2; omega
  | succ f ih =>
    intro q h k h1 h2
    rw [okAll, Bool.and_eq_true, decide_eq_true_eq] at h
    by_cases z : k = q
    · rw [z]; exact h.1
    · exact ih (q + 1) h.2 k (by omega) (by omega)
def notesNo (h0 : ZH) (x : Int32) : Int32 := if rowRefI h0 x = 0 then (if (h0.1 42 0 x.toNatClampNeg).toNatClampNeg % 2 = 0 ∧ okAll (elN h0 x.toNatClampNeg) ((h0.1 42 0 x.toNatClampNeg).toNatClampNeg / 2) 0 = true then 0 else -13) else rowRefI h0 x
theorem nI_rem2 {n : Nat} (hn : n ≤ 100) : nI n - nI n / 2 * 2 = nI (n % 2) := pk_rem (d := 2) (by omega) (by decide) (by decide)
theorem jX11_notesRefused {G : ZG} (d : Nat) {h : ZH} {S : Nat} {c e : ZQ5} {N : ZN} (j : JX h S c e N) (x : Int32) : zC G (d + 3) mX11_notesRefused [zr 0 0, zi x] h (fun r h' => r = some (zi (notesNo N.2 x)) ∧ h' = h) := by
  refine zC_of (by decide +kernel) (Nat.le_of_ble_eq_true rfl) (L := [zr 0 0, zi x, zu, zu, zu, zu]) ⟨rfl, ⟨rfl, trivial⟩⟩ ?_
  refine wX11_notesRefused_0 ?_
  rw [j.rr]
  unfold notesNo
  refine ⟨fun z => ?_, fun z => ⟨by rw [if_neg z], rfl⟩⟩
  obtain ⟨dd, n, t, hd, hn, ht, rfl, e4, e42, k1, k2, t1, t2, el⟩ := rr_0 j.sh0 z
  have el' : ∀ i, i < 100 → N.2.1 16 dd i = N.2.1 43 0 (100 * dd + i) := fun i hi => (el i hi).1
  rw [if_pos z, nI_cl (show dd ≤ 4096 by omega), e42, nI_cl (show n ≤ 4096 by omega), z, j.k0 (by decide), e4, nI_rem2 hn, zn0 (show n % 2 < 4096 by omega)]
  refine ⟨vpn hd (by decide), fun ev => ?_, fun ev => ⟨by rw [if_neg (fun q => ev q.1)], rfl⟩⟩
  have key : ∀ (f q : Nat), 2 * (f + q) = n → okAll (elN N.2 dd) f q = okAll (elN N.2 dd) (n / 2) 0 → zT G (d + 3) mX11_notesRefused 34 [zr 0 0, zi (nI dd), zi 0, zr 3 dd, zi (nI (2 * q)), zu] [] h (fun r h' => r = some (zi (if n % 2 = 0 ∧ okAll (elN N.2 dd) (n / 2) 0 = true then 0 else -13)) ∧ h' = h) := by
    intro f
    induction f with
    | zero =>
      intro q hq ho
      refine wX11_notesRefused_34 hd ?_
      rw [j.k0 (by decide), e4]
      refine br_t ((nI_leb (by omega) (by omega)).mpr (by omega)) ⟨?_, rfl⟩
      rw [← ho, if_pos ⟨ev, rfl⟩]
    | succ f ih =>
      intro q hq ho
      refine wX11_notesRefused_34 hd ?_
      rw [j.k0 (by decide), e4]
      refine br_f (fun w => by have := (nI_leb (by omega) (by omega)).mp w; omega) ?_
      have a1 := j.at_n hn e4 el' (show 2 * q < n by omega)
      have a2 := j.at_n hn e4 el' (show 2 * q + 1 < n by omega)
      rw [nI_1, a1, a2]
      refine ⟨n100 hn, n100 hn, ?_⟩
      have bad : ¬ okPair (elN N.2 dd) q → (fun (r : Option ZV) h' => r = some (zi (if n % 2 = 0 ∧ okAll (elN N.2 dd) (n / 2) 0 = true then 0 else -13)) ∧ h' = h) (some (zi (-13))) h := by
        intro w
        refine ⟨?_, rfl⟩
        rw [if_neg]
        rintro ⟨_, z2⟩
        rw [← ho] at z2
        exact w (okAll_at _ _ z2 q (Nat.le_refl _) (by omega))
      refine ⟨fun w => bad fun z => w z.1, fun w => ⟨fun w2 => bad fun z => (fa_of_lt w2).2.1 z.2.1, fun w2 => ⟨fun w3 => ?_, fun w3 => bad fun z => w3 z.2.2⟩⟩⟩
      have e2 : nI (2 * q) + 2 = nI (2 * (q + 1)) := by
        rw [show (2 : Int32) = nI 2 from by decide, nI_add]
        congr 1
      rw [e2]
      refine ih (q + 1) (by omega) ?_
      rw [← ho, okAll]
      have : decide ((0 ≤ elN N.2 dd (2 * q) ∧ elN N.2 dd (2 * q) ≤ 11) ∧ (0 ≤ elN N.2 dd (2 * q + 1) ∧ elN N.2 dd (2 * q + 1) ≤ 50)) = true := by
        rw [decide_eq_true_eq]
        exact ⟨w, fa_of_nlt w2, w3⟩
      rw [this, Bool.true_and]
  exact key (n / 2) 0 (by omega) rfl
theorem jX12_wrongPairs {G : ZG} (d : Nat) {h : ZH} {S : Nat} {c e : ZQ5} {N : ZN} (j : JX h S c e N) (x : Int32) : zC G (d + 4) mX12_wrongPairs [zr 5 0, zi x] h (fun r h' => r = some (zi (notesNo N.2 x)) ∧ h' = h) := by
  refine zC_of (by decide +kernel) (Nat.le_of_ble_eq_true rfl) (L := [zr 5 0, zi x, zu, zu]) ⟨rfl, ⟨rfl, trivial⟩⟩ ?_
  refine wX12_wrongPairs_0 ?_
  rw [j.wr]
  unfold notesNo
  refine ⟨fun z => ?_, fun z => ⟨by rw [if_neg z], rfl⟩⟩
  obtain ⟨dd, n, t, hd, hn, ht, rfl, e4, e42, k1, k2, t1, t2, el⟩ := rr_0 j.sh0 z
  have v8 : vp_in (nI dd) 8 := vpn hd (by decide)
  rw [if_pos z, nI_cl (show dd ≤ 4096 by omega), e42, nI_cl (show n ≤ 4096 by omega), z, j.k0 (by decide), e42, nI_rem2 hn, show (1 : Int32) = nI 1 from by decide, zi_inj (show n % 2 < 4096 by omega) (by decide)]
  refine ⟨v8, fun od => ?_, fun od => ⟨by rw [if_neg (fun q => by omega)], rfl⟩⟩
  have ev : n % 2 = 0 := by omega
  have key : ∀ (f q : Nat), 2 * (f + q) = n → okAll (elN N.2 dd) f q = okAll (elN N.2 dd) (n / 2) 0 → zT G (d + 4) mX12_wrongPairs 30 [zr 5 0, zi (nI dd), zi 0, zi (nI (2 * q))] [] h (fun r h' => r = some (zi (if n % 2 = 0 ∧ okAll (elN N.2 dd) (n / 2) 0 = true then 0 else -13)) ∧ h' = h) := by
    intro f
    induction f with
    | zero =>
      intro q hq ho
      refine wX12_wrongPairs_30 ?_
      rw [nI_cl (show dd ≤ 4096 by omega), j.k0 (by decide), e42]
      refine ⟨v8, br_t ((nI_leb (by omega) (by omega)).mpr (by omega)) ⟨?_, rfl⟩⟩
      rw [← ho, if_pos ⟨ev, rfl⟩]
    | succ f ih =>
      intro q hq ho
      have ix := ix_el hd (show 2 * q < 100 by omega)
      have ix2 : vp_in (nI (100 * dd + 2 * q + 1)) 800 ∧ (nI (100 * dd + 2 * q + 1)).toNatClampNeg = 100 * dd + (2 * q + 1) := ⟨vpn (by omega) (by decide), nI_cl (by omega)⟩
      refine wX12_wrongPairs_30 ?_
      rw [nI_cl (show dd ≤ 4096 by omega), ix.1, ix.2.2, nI_1, ix2.2, j.k0 (k := 42) (by decide), e42, j.k0 (k := 43) (by decide), j.k0 (k := 43) (by decide)]
      refine ⟨v8, ?_⟩
      refine br_f (fun w => by have := (nI_leb (by omega) (by omega)).mp w; omega) ?_
      refine ⟨ix.2.1, ?_⟩
      have bad : ¬ okPair (elN N.2 dd) q → (fun (r : Option ZV) h' => r = some (zi (if n % 2 = 0 ∧ okAll (elN N.2 dd) (n / 2) 0 = true then 0 else -13)) ∧ h' = h) (some (zi (-13))) h := by
        intro w
        refine ⟨?_, rfl⟩
        rw [if_neg]
        rintro ⟨_, z2⟩
        rw [← ho] at z2
        exact w (okAll_at _ _ z2 q (Nat.le_refl _) (by omega))
      refine ⟨fun w => bad fun z => w z.1, fun w => ⟨ix2.1, fun w2 => ?_, fun w2 => bad fun z => w2 z.2⟩⟩
      have e2 : nI (2 * q) + 2 = nI (2 * (q + 1)) := by
        rw [show (2 : Int32) = nI 2 from by decide, nI_add]
        congr 1
      rw [e2]
      refine ih (q + 1) (by omega) ?_
      rw [← ho, okAll]
      have : decide ((0 ≤ elN N.2 dd (2 * q) ∧ elN N.2 dd (2 * q) ≤ 11) ∧ (0 ≤ elN N.2 dd (2 * q + 1) ∧ elN N.2 dd (2 * q + 1) ≤ 50)) = true := by
        rw [decide_eq_true_eq]
        exact ⟨w, w2⟩
      rw [this, Bool.true_and]
  exact key (n / 2) 0 (by omega) rfl
/-- a row of pairs that no call refuses -/
def pairRow (h0 : ZH) (dd m : Nat) : Prop := dd < 8 ∧ 2 * m ≤ 100 ∧ h0.1 3 dd 4 = nI (2 * m) ∧ h0.1 42 0 dd = nI (2 * m) ∧ (∀ i, i < 100 → h0.1 16 dd i = h0.1 43 0 (100 * dd + i)) ∧ ∀ q, q < m → okPair (elN h0 dd) q
theorem notes_0 {h0 : ZH} (s : SH h0) {x : Int32} (z : notesNo h0 x = 0) : ∃ dd m : Nat, x = nI dd ∧ dd < 8 ∧ pairRow h0 dd m := by
  unfold notesNo at z
  by_cases q : rowRefI h0 x = 0
  · rw [if_pos q] at z
    obtain ⟨dd, n, t, hd, hn, ht, rfl, e4, e42, k1, k2, t1, t2, el⟩ := rr_0 s q
    rw [nI_cl (show dd ≤ 4096 by omega), e42, nI_cl (show n ≤ 4096 by omega)] at z
    by_cases w : n % 2 = 0 ∧ okAll (elN h0 dd) (n / 2) 0 = true
    · have en : n = 2 * (n / 2) := by omega
      refine ⟨dd, n / 2, rfl, hd, hd, by omega, by rw [← en]; exact e4, by rw [← en]; exact e42, fun i hi => (el i hi).1, fun k hk => okAll_at _ _ w.2 k (Nat.zero_le _) (by omega)⟩
    · rw [if_neg w] at z; exact absurd z (by decide)
  · rw [if_neg q] at z; exact absurd z q
/-- does what is left sound as the pairs tell -/
def sndF (e : ZQ5) (E : Nat → Int32) (T : Nat) : Nat → Nat → Bool
  | 0, _ => true
  | f + 1, q => decide (ntV e T (E (2 * q)).toNatClampNeg = E (2 * q + 1)) && sndF e E T f (q + 1)
def sus1 (e : ZQ5) (E : Nat → Int32) (S m p : Nat) : Bool := S.testBit p && sndF e E (stl e (zsd S (2 ^ p))) m 0
theorem jX4_weighIn {G : ZG} (d : Nat) {h : ZH} {S T : Nat} {c e : ZQ5} {N : ZN} (j : JX h S c e N) (hT : zle T S) : zC G (d + 3) mX4_weighIn [zr 2 0, zi (nI T)] h (fun r h' => r = none ∧ (∀ p, p < 12 → h'.1 15 0 p = zlds e T p) ∧ JX h' S c e N) := by
  refine zC_mono (sX4_weighIn d j.c (zle_lt hT j.lt)) ?_
  rintro r h' ⟨rfl, f, q⟩
  refine ⟨rfl, fun p hp => ?_, j.fL f⟩
  rw [q p hp, j.ldsE hT]
theorem jX3_soundsAs {G : ZG} (d : Nat) {h : ZH} {S T : Nat} {c e : ZQ5} {N : ZN} {dd m : Nat} (hr : pairRow N.2 dd m) (j : JX h S c e N) (hT : zle T S) : zC G (d + 4) mX3_soundsAs [zr 1 0, zi (nI T), zr 3 dd] h (zJ S c e N (zb (sndF e (elN N.2 dd) T m 0 = true))) := by
  obtain ⟨hd, hm, e4, e42, el, ok⟩ := hr
  refine zC_of (by decide +kernel) (Nat.le_of_ble_eq_true rfl) (L := [zr 1 0, zi (nI T), zr 3 dd, zu]) ⟨rfl, ⟨rfl, ⟨rfl, trivial⟩⟩⟩ ?_
  refine wX3_soundsAs_0 hd ?_
  refine zC_mono (jX4_weighIn d j hT) ?_
  rintro r h1 ⟨rfl, ld, j1⟩
  refine ⟨rfl, ?_⟩
  have key : ∀ (f q : Nat), f + q = m → sndF e (elN N.2 dd) T f q = sndF e (elN N.2 dd) T m 0 → zT G (d + 4) mX3_soundsAs 10 [zr 1 0, zi (nI T), zr 3 dd, zi (nI (2 * q))] [] h1 (zJ S c e N (zb (sndF e (elN N.2 dd) T m 0 = true))) := by
    intro f
    induction f with
    | zero =>
      intro q hq ho
      refine wX3_soundsAs_10 hd ?_
      rw [j1.k0 (by decide), e4, nI_1]
      refine br_t ((nI_leb (by omega) (by omega)).mpr (by omega)) ⟨?_, j1⟩
      rw [← ho, zb_t (show sndF e (elN N.2 dd) T 0 q = true from rfl)]
    | succ f ih =>
      intro q hq ho
      obtain ⟨p, hp, ep⟩ := zin12 (ok q (by omega)).1
      refine wX3_soundsAs_10 hd ?_
      rw [j1.k0 (by decide), e4, nI_1]
      refine br_f (fun w => by have := (nI_leb (by omega) (by omega)).mp w; omega) ?_
      refine ⟨n100 hm, ?_⟩
      rw [j1.at_n hm e4 el (show 2 * q < 2 * m by omega), ep]
      refine zC_mono (jX3_noteIn (d + 1) j1 hT hp ld) ?_
      rintro r h2 ⟨rfl, e2⟩
      refine ⟨_, rfl, ?_⟩
      rw [e2, j1.k0 (by decide), e4]
      refine ⟨n100 hm, ?_⟩
      rw [j1.at_n hm e4 el (show 2 * q + 1 < 2 * m by omega)]
      have e2q : nI (2 * q) + 2 = nI (2 * (q + 1)) := by
        rw [show (2 : Int32) = nI 2 from by decide, nI_add]
        congr 1
      rw [e2q]
      rw [sndF, ep, nI_cl (show p ≤ 4096 by omega)] at ho
      refine ⟨fun w => ih (q + 1) (by omega) ?_, fun w => ⟨?_, j1⟩⟩
      · rw [← ho, decide_eq_true w, Bool.true_and]
      · rw [← ho, decide_eq_false w, Bool.false_and]
        rfl
  exact key m 0 (by omega) rfl
theorem jX3_suspectsBy {G : ZG} (d : Nat) {h : ZH} {S : Nat} {c e : ZQ5} {N : ZN} {dd m : Nat} (hr : pairRow N.2 dd m) (j : JX h S c e N) : zC G (d + 5) mX3_suspectsBy [zr 1 0, zr 3 dd] h (zJ S c e N (nI (zmk (sus1 e (elN N.2 dd) S m) 12))) := by
  have hd := hr.1
  refine zC_of (by decide +kernel) (Nat.le_of_ble_eq_true rfl) (L := [zr 1 0, zr 3 dd, zu, zu]) ⟨rfl, ⟨rfl, trivial⟩⟩ ?_
  refine wX3_suspectsBy_0 hd ?_
  have key : ∀ (f n : Nat) (h1 : ZH), f + n = 12 → JX h1 S c e N → zT G (d + 5) mX3_suspectsBy 4 [zr 1 0, zr 3 dd, zi (nI (zmk (sus1 e (elN N.2 dd) S m) n)), zi (nI n)] [] h1 (zJ S c e N (nI (zmk (sus1 e (elN N.2 dd) S m) 12))) := by
    intro f
    induction f with
    | zero =>
      intro n h1 hn j1
      have en : n = 12 := by omega
      subst en
      refine wX3_suspectsBy_4 hd ?_
      exact br_t (by decide) ⟨rfl, j1⟩
    | succ f ih =>
      intro n h1 hn j1
      have hn' : n < 12 := by omega
      have IH := ih (n + 1)
      refine wX3_suspectsBy_4 hd ?_
      refine br_f (nI_ge (a := n) (b := 12) (by omega) (by decide)) ?_
      rw [j1.st6, hasI_iff j.lt (show n < 32 by omega), nI_1, zsd_p j.lt hn']
      refine ⟨fun t => ?_, fun t => ?_⟩
      · rw [zmk_no _ (by unfold sus1; simp [t])] at IH
        exact IH h1 (by omega) j1
      · refine zC_mono (jX3_leftOf d j1 (zsd_le j.lt)) ?_
        rintro r h2 ⟨rfl, j2, _⟩
        refine ⟨_, rfl, ?_⟩
        refine zC_mono (jX3_soundsAs d hr j2 (stl_sub j.lt (zle_rf S))) ?_
        rintro r h3 ⟨rfl, j3⟩
        refine ⟨_, rfl, ?_⟩
        rw [zb_eq0]
        refine ⟨fun q => ?_, fun q => ?_⟩
        · rw [zmk_no _ (by unfold sus1; simp [q])] at IH
          exact IH h3 (by omega) j3
        · have q' := Classical.not_not.mp q
          rw [← zi_mk _ hn' (by unfold sus1; simp [t, q'])] at IH
          exact IH h3 (by omega) j3
  exact key 12 0 h (by omega) j
theorem jX12_whichOf {G : ZG} (d : Nat) {h : ZH} {S : Nat} {c e : ZQ5} {N : ZN} {dd m : Nat} (hr : pairRow N.2 dd m) (j : JX h S c e N) : zC G (d + 8) mX12_whichOf [zr 5 0, zi (nI dd)] h (zJ S c e N (nI (zmk (sus1 e (elN N.2 dd) S m) 12))) := by
  obtain ⟨hd, hm, e4, e42, el, ok⟩ := hr
  have v8 : vp_in (nI dd) 8 := vpn hd (by decide)
  refine zC_of (by decide +kernel) (Nat.le_of_ble_eq_true rfl) (L := [zr 5 0, zi (nI dd), zu, zu, zu, zu]) ⟨rfl, ⟨rfl, trivial⟩⟩ ?_
  refine wX12_whichOf_0 ?_
  have key : ∀ (f n : Nat) (h1 : ZH), f + n = 12 → JX h1 S c e N → zT G (d + 8) mX12_whichOf 4 [zr 5 0, zi (nI dd), zi (nI (zmk (sus1 e (elN N.2 dd) S m) n)), zi (nI n), zu, zu] [] h1 (zJ S c e N (nI (zmk (sus1 e (elN N.2 dd) S m) 12))) := by
    intro f
    induction f with
    | zero =>
      intro n h1 hn j1
      have en : n = 12 := by omega
      subst en
      refine wX12_whichOf_4 ?_
      exact br_t (by decide) ⟨rfl, j1⟩
    | succ f ih =>
      intro n h1 hn j1
      have hn' : n < 12 := by omega
      refine wX12_whichOf_4 ?_
      refine br_f (nI_ge (a := n) (b := 12) (by omega) (by decide)) ?_
      have hasb : zb (hasI (h1.1 30 0 0) (nI n)) = zb (S.testBit n = true) := by
        rw [j1.m0]
        exact zb_congr (hasI_iff j.lt (show n < 32 by omega))
      rw [hasb]
      -- the end of the inner loop
      have no : ∀ h2, JX h2 S c e N → sus1 e (elN N.2 dd) S m n = false → zT G (d + 8) mX12_whichOf 4 [zr 5 0, zi (nI dd), zi (nI (zmk (sus1 e (elN N.2 dd) S m) n) ||| 0), zi (nI (n + 1)), zu, zu] [] h2 (zJ S c e N (nI (zmk (sus1 e (elN N.2 dd) S m) 12))) := by
        intro h2 j2 q
        have IH := ih (n + 1) h2 (by omega) j2
        rw [zmk_no _ q] at IH
        rw [zor_0]
        exact IH
      have yes : ∀ h2, JX h2 S c e N → sus1 e (elN N.2 dd) S m n = true → zT G (d + 8) mX12_whichOf 4 [zr 5 0, zi (nI dd), zi (nI (zmk (sus1 e (elN N.2 dd) S m) n) ||| (1 : Int32) <<< (nI n &&& 31)), zi (nI (n + 1)), zu, zu] [] h2 (zJ S c e N (nI (zmk (sus1 e (elN N.2 dd) S m) 12))) := by
        intro h2 j2 q
        have IH := ih (n + 1) h2 (by omega) j2
        rw [← zi_mk _ hn' q] at IH
        exact IH
      -- once it is not, whatever k
      have inno : ∀ (q : Nat) (h2 : ZH), 2 * q ≤ 2 * m → JX h2 S c e N → sus1 e (elN N.2 dd) S m n = false → zT G (d + 8) mX12_whichOf 20 [zr 5 0, zi (nI dd), zi (nI (zmk (sus1 e (elN N.2 dd) S m) n)), zi (nI n), zi 0, zi (nI (2 * q))] [] h2 (zJ S c e N (nI (zmk (sus1 e (elN N.2 dd) S m) 12))) := by
        intro q h2 hq j2 sn
        refine wX12_whichOf_20 ?_
        rw [nI_1]
        refine ⟨v8, fun _ => ⟨fun _ => no h2 j2 sn, fun z => absurd rfl z⟩, fun _ => ⟨fun _ => ⟨fun _ => no h2 j2 sn, fun z => absurd rfl z⟩, fun z => absurd rfl z⟩⟩
      have inner : ∀ (g q : Nat) (h2 : ZH), g + q = m → JX h2 S c e N → sus1 e (elN N.2 dd) S m n = sndF e (elN N.2 dd) (stl e (zsd S (2 ^ n))) g q → zT G (d + 8) mX12_whichOf 20 [zr 5 0, zi (nI dd), zi (nI (zmk (sus1 e (elN N.2 dd) S m) n)), zi (nI n), zi 1, zi (nI (2 * q))] [] h2 (zJ S c e N (nI (zmk (sus1 e (elN N.2 dd) S m) 12))) := by
        intro g
        induction g with
        | zero =>
          intro q h2 hq j2 ho
          refine wX12_whichOf_20 ?_
          rw [nI_cl (show dd ≤ 4096 by omega), j2.k0 (by decide), e42, nI_1]
          refine ⟨v8, br_t ((nI_leb (by omega) (by omega)).mpr (by omega)) ⟨fun z => absurd z (by decide), fun _ => yes h2 j2 ?_⟩⟩
          rw [ho]; rfl
        | succ g ih2 =>
          intro q h2 hq j2 ho
          obtain ⟨p, hp, ep⟩ := zin12 (ok q (by omega)).1
          have ix := ix_el hd (show 2 * q < 100 by omega)
          have ix2 : vp_in (nI (100 * dd + 2 * q + 1)) 800 ∧ (nI (100 * dd + 2 * q + 1)).toNatClampNeg = 100 * dd + (2 * q + 1) := ⟨vpn (by omega) (by decide), nI_cl (by omega)⟩
          refine wX12_whichOf_20 ?_
          rw [nI_cl (show dd ≤ 4096 by omega), ix.1, ix.2.2, nI_1 (100 * dd + 2 * q), ix2.2, j2.k0 (k := 42) (by decide), e42, j2.k0 (k := 43) (by decide), show N.2.1 43 0 (100 * dd + 2 * q) = nI p from ep]
          refine ⟨v8, ?_⟩
          refine br_f (fun w => by have := (nI_leb (by omega) (by omega)).mp w; omega) ?_
          refine ⟨fun z => absurd z (by decide), fun _ => ⟨ix.2.1, ?_⟩⟩
          refine zC_mono (jX12_noteWithout d j2 hp hn') ?_
          rintro r h3 ⟨rfl, j3⟩
          refine ⟨_, rfl, ix2.1, ?_⟩
          have e2q : nI (2 * q) + 2 = nI (2 * (q + 1)) := by
            rw [show (2 : Int32) = nI 2 from by decide, nI_add]
            congr 1
          rw [e2q, j3.k0 (k := 43) (by decide)]
          rw [sndF, ep, nI_cl (show p ≤ 4096 by omega)] at ho
          refine ⟨fun w => inno (q + 1) h3 (by omega) j3 ?_, fun w => ih2 (q + 1) h3 (by omega) j3 ?_⟩
          · have w' : ¬ ntV e (stl e (zsd S (2 ^ n))) p = elN N.2 dd (2 * q + 1) := w
            rw [ho, decide_eq_false w', Bool.false_and]
          · have w' : ntV e (stl e (zsd S (2 ^ n))) p = elN N.2 dd (2 * q + 1) := w
            rw [ho, decide_eq_true w', Bool.true_and]
      by_cases t : S.testBit n = true
      · rw [zb_t t]
        refine inner m 0 h1 (by omega) j1 ?_
        unfold sus1
        rw [t, Bool.true_and]
      · rw [zb_f t]
        refine inno 0 h1 (by omega) j1 ?_
        unfold sus1
        rw [eq_false_of_ne_true t, Bool.false_and]
  exact key 12 0 h (by omega) j
def whichV (h0 : ZH) (e : ZQ5) (S : Nat) (x w : Int32) : Int32 := if 0 ≤ w ∧ w ≤ 1 then (if notesNo h0 x = 0 then (if w = 0 then nI (zmk (sus1 e (elN h0 x.toNatClampNeg) S ((h0.1 42 0 x.toNatClampNeg).toNatClampNeg / 2)) 12) else nI (zpc (zmk (sus1 e (elN h0 x.toNatClampNeg) S ((h0.1 42 0 x.toNatClampNeg).toNatClampNeg / 2)) 12))) else notesNo h0 x) else -1
theorem pX11_which {G : ZG} (d : Nat) {h : ZH} {S : Nat} {c e : ZQ5} {N : ZN} (j : JX h S c e N) (x w : Int32) : zC G (d + 6) mX11_which [zr 0 0, zi x, zi w] h (zJ S c e N (whichV N.2 e S x w)) := by
  refine zC_of (by decide +kernel) (Nat.le_of_ble_eq_true rfl) (L := [zr 0 0, zi x, zi w, zu, zu]) ⟨rfl, ⟨rfl, ⟨rfl, trivial⟩⟩⟩ ?_
  refine wX11_which_0 ?_
  unfold whichV
  refine ⟨fun a => ?_, fun a => ⟨by rw [if_neg a], j⟩⟩
  rw [if_pos a]
  refine zC_mono (jX11_notesRefused (d + 2) j x) ?_
  rintro r h1 ⟨rfl, rfl⟩
  refine ⟨_, rfl, fun z => ?_, fun z => ⟨by rw [if_neg z], j⟩⟩
  rw [if_pos z]
  obtain ⟨dd, m, rfl, hd, hr⟩ := notes_0 j.sh0 z
  rw [nI_cl (show dd ≤ 4096 by omega), hr.2.2.2.1, nI_cl (show 2 * m ≤ 4096 by have := hr.2.1; omega), show 2 * m / 2 = m by omega]
  refine ⟨vpn hd (by decide), ?_⟩
  refine zC_mono (jX3_suspectsBy d hr j) ?_
  rintro r h2 ⟨rfl, j2⟩
  refine ⟨_, rfl, fun q => ⟨?_, j2⟩, fun q => ⟨by rw [if_pos q], j2⟩⟩
  rw [if_neg q, bcI_nI (zms_lt _)]
theorem pX12_which {G : ZG} (d : Nat) {h : ZH} {S : Nat} {c e : ZQ5} {N : ZN} (j : JX h S c e N) (x w : Int32) : zC G (d + 9) mX12_which [zr 5 0, zi x, zi w] h (zJ S c e N (whichV N.2 e S x w)) := by
  refine zC_of (by decide +kernel) (Nat.le_of_ble_eq_true rfl) (L := [zr 5 0, zi x, zi w, zu]) ⟨rfl, ⟨rfl, ⟨rfl, trivial⟩⟩⟩ ?_
  refine wX12_which_0 ?_
  unfold whichV
  refine ⟨fun a => ?_, fun a => ⟨by rw [if_neg a], j⟩⟩
  rw [if_pos a]
  refine zC_mono (jX12_wrongPairs (d + 4) j x) ?_
  rintro r h1 ⟨rfl, rfl⟩
  refine ⟨_, rfl, fun z => ?_, fun z => ⟨by rw [if_neg z], j⟩⟩
  rw [if_pos z]
  obtain ⟨dd, m, rfl, hd, hr⟩ := notes_0 j.sh0 z
  rw [nI_cl (show dd ≤ 4096 by omega), hr.2.2.2.1, nI_cl (show 2 * m ≤ 4096 by have := hr.2.1; omega), show 2 * m / 2 = m by omega]
  refine ⟨fun q => ?_, fun q => ?_⟩
  · refine zC_mono (jX12_whichOf d hr j) ?_
    rintro r h2 ⟨rfl, j2⟩
    refine ⟨_, rfl, ?_, j2⟩
    rw [if_neg q, bitsI_nI (zms_lt _)]
  · refine zC_mono (jX12_whichOf d hr j) ?_
    rintro r h2 ⟨rfl, j2⟩
    exact ⟨_, rfl, by rw [if_pos q], j2⟩
