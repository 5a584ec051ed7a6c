/-! ===== tins, forged, both sides ===== -/
def tld (e : ZQ5) (T p : Nat) (v : Int32) : Bool := T.testBit p && decide (nI (zpc (stl e (zsd T (2 ^ p)))) = v)
def sumN (f : Nat → Nat) : Nat → Nat
  | 0 => 0
  | n + 1 => sumN f n + f n
def maxN (a : Nat) (f : Nat → Nat) : Nat → Nat
  | 0 => a
  | n + 1 => max (maxN a f n) (f n)
/-- in how many ways -/
def waysN (e : ZQ5) (E : Nat → Int32) : Nat → Nat → Nat → Nat
  | 0, _, _ => 1
  | r + 1, i, T => sumN (fun p => if tld e T p (E i) = true then waysN e E r (i + 1) (stl e (zsd T (2 ^ p))) else 0) 12
def wayU (e : ZQ5) (E : Nat → Int32) (r i T p : Nat) : Nat := if tld e T p (E i) = true then waysN e E r (i + 1) (stl e (zsd T (2 ^ p))) else 0
theorem waysN_s (e : ZQ5) (E : Nat → Int32) (r i T : Nat) : waysN e E (r + 1) i T = sumN (wayU e E r i T) 12 := rfl
/-- how far it is believed -/
def belN (e : ZQ5) (E : Nat → Int32) : Nat → Nat → Nat → Nat
  | 0, i, _ => i
  | r + 1, i, T => maxN i (fun p => if tld e T p (E i) = true then belN e E r (i + 1) (stl e (zsd T (2 ^ p))) else 0) 12
def belU (e : ZQ5) (E : Nat → Int32) (r i T p : Nat) : Nat := if tld e T p (E i) = true then belN e E r (i + 1) (stl e (zsd T (2 ^ p))) else 0
theorem belN_s (e : ZQ5) (E : Nat → Int32) (r i T : Nat) : belN e E (r + 1) i T = maxN i (belU e E r i T) 12 := rfl
theorem sumN_le {f : Nat → Nat} {b : Nat} (h : ∀ p, f p ≤ b) : ∀ n, sumN f n ≤ n * b := by
  intro n
  induction n with
  | zero => exact Nat.zero_le _
  | succ n ih => rw [sumN, Nat.succ_mul]; exact Nat.add_le_add ih (h n)
theorem waysN_le (e : ZQ5) (E : Nat → Int32) : ∀ (r i T : Nat), waysN e E r i T ≤ 12 ^ r := by
  intro r
  induction r with
  | zero => intro i T; exact Nat.le_refl _
  | succ r ih =>
    intro i T
    rw [waysN_s, Nat.pow_succ, Nat.mul_comm]
    refine sumN_le (fun p => ?_) 12
    unfold wayU
    split
    · exact ih _ _
    · exact Nat.zero_le _
theorem maxN_le {a b : Nat} {f : Nat → Nat} (ha : a ≤ b) (h : ∀ p, f p ≤ b) : ∀ n, maxN a f n ≤ b := by
  intro n
  induction n with
  | zero => exact ha
  | succ n ih => rw [maxN]; exact Nat.max_le.mpr ⟨ih, h n⟩
theorem belN_le (e : ZQ5) (E : Nat → Int32) : ∀ (r i T : Nat), belN e E r i T ≤ i + r := by
  intro r
  induction r with
  | zero => intro i T; exact Nat.le_refl _
  | succ r ih =>
    intro i T
    rw [belN_s]
    refine maxN_le (by omega) (fun p => ?_) 12
    unfold belU
    split
    · have := ih (i + 1) (stl e (zsd T (2 ^ p))); omega
    · exact Nat.zero_le _
theorem jX3_isTold {G : ZG} (d : Nat) {h : ZH} {S T p : Nat} {c e : ZQ5} {N : ZN} (j : JX h S c e N) (hT : zle T S) (hp : p < 12) (v : Int32) : zC G (d + 5) mX3_isTold [zr 1 0, zi (nI T), zi (nI p), zi v] h (zJ S c e N (zb (tld e T p v = true))) := by
  refine zC_of (by decide +kernel) (Nat.le_of_ble_eq_true rfl) (L := [zr 1 0, zi (nI T), zi (nI p), zi v]) ⟨rfl, ⟨rfl, ⟨rfl, ⟨rfl, trivial⟩⟩⟩⟩ ?_
  have hT4 := zle_lt hT j.lt
  refine wX3_isTold_0 ?_
  rw [zbit0 hT4 (show p < 32 by omega), zsd_p hT4 hp]
  refine ⟨fun t => ⟨by rw [zb_f (by unfold tld; simp [t])], j⟩, fun t => ?_⟩
  have t' := Classical.not_not.mp t
  refine zC_mono (jX3_leftOf d j (zle_sd hT4 hT)) ?_
  rintro r h' ⟨rfl, j', _⟩
  refine ⟨_, rfl, ?_⟩
  rw [bcI_nI (stl_lt e (zsd_lt hT4))]
  exact ⟨fun q => ⟨by rw [zb_f (by unfold tld; simp [q])], j'⟩, fun q => ⟨by rw [zb_t (by unfold tld; simp [t', q])], j'⟩⟩
theorem stl_sub {e : ZQ5} {T S U : Nat} (hS : S < 4096) (hT : zle T S) : zle (stl e (zsd T U)) S := zle_tr (stl_le e (zsd_lt (zle_lt hT hS))) (zle_sd (zle_lt hT hS) hT)
/-- a row of no more than four, as it lies on its shelf -/
def tinRow (h0 : ZH) (dd n : Nat) : Prop := dd < 8 ∧ n ≤ 4 ∧ h0.1 3 dd 4 = nI n ∧ h0.1 42 0 dd = nI n ∧ ∀ i, i < 100 → h0.1 16 dd i = h0.1 43 0 (100 * dd + i)
theorem jX3_waysFrom {G : ZG} (d : Nat) {S : Nat} {c e : ZQ5} {N : ZN} {dd n : Nat} (hr : tinRow N.2 dd n) : ∀ (r i T : Nat) (h : ZH), i + r = n → zle T S → JX h S c e N → zC G (d + r + 6) mX3_waysFrom [zr 1 0, zi (nI T), zr 3 dd, zi (nI i)] h (zJ S c e N (nI (waysN e (elN N.2 dd) r i T))) := by
  obtain ⟨hd, hn, e4, e42, el⟩ := hr
  intro r
  induction r with
  | zero =>
    intro i T h hi hT j
    refine zC_of (by decide +kernel) (Nat.le_of_ble_eq_true rfl) (L := [zr 1 0, zi (nI T), zr 3 dd, zi (nI i), zu, zu]) ⟨rfl, ⟨rfl, ⟨rfl, ⟨rfl, trivial⟩⟩⟩⟩ ?_
    refine wX3_waysFrom_0 hd ?_
    rw [j.k0 (by decide), e4]
    exact br_t ((nI_leb (by omega) (by omega)).mpr (by omega)) ⟨rfl, j⟩
  | succ r ih =>
    intro i T h hi hT j
    refine zC_of (by decide +kernel) (Nat.le_of_ble_eq_true rfl) (L := [zr 1 0, zi (nI T), zr 3 dd, zi (nI i), zu, zu]) ⟨rfl, ⟨rfl, ⟨rfl, ⟨rfl, trivial⟩⟩⟩⟩ ?_
    refine wX3_waysFrom_0 hd ?_
    rw [j.k0 (by decide), e4]
    refine br_f (fun q => by have := (nI_leb (by omega) (by omega)).mp q; omega) ?_
    have l4 : nI i < 4 := by
      have : ∀ i, i < 4 → nI i < 4 := by decide
      exact this i (by omega)
    refine br_t l4 ?_
    have hT4 := zle_lt hT j.lt
    have key : ∀ (f m : Nat) (h1 : ZH), f + m = 12 → JX h1 S c e N → zT G (d + (r + 1) + 6) mX3_waysFrom 21 [zr 1 0, zi (nI T), zr 3 dd, zi (nI i), zi (nI (sumN (wayU e (elN N.2 dd) r i T) m)), zi (nI m)] [] h1 (zJ S c e N (nI (waysN e (elN N.2 dd) (r + 1) i T))) := by
      intro f
      induction f with
      | zero =>
        intro m h1 hm j1
        have em : m = 12 := by omega
        subst em
        refine wX3_waysFrom_21 hd ?_
        exact br_t (by decide) ⟨rfl, j1⟩
      | succ f ih2 =>
        intro m h1 hm j1
        have hm' : m < 12 := by omega
        have IH := ih2 (m + 1)
        rw [sumN] at IH
        refine wX3_waysFrom_21 hd ?_
        refine br_f (nI_ge (a := m) (b := 12) (by omega) (by decide)) ?_
        rw [j1.k0 (by decide), e4, j1.at_n (show n ≤ 100 by omega) e4 el (show i < n by omega), zsd_p hT4 hm', nI_1, nI_1]
        refine ⟨n100 (by omega), ?_⟩
        refine zC_mono (jX3_isTold (d + (r + 1)) j1 hT hm' _) ?_
        rintro rr h2 ⟨rfl, j2⟩
        refine ⟨_, rfl, ?_⟩
        rw [zb_eq0]
        refine ⟨fun q => ?_, fun q => ?_⟩
        · have := IH h2 (by omega) j2
          rw [show wayU e (elN N.2 dd) r i T m = 0 from if_neg q, Nat.add_zero] at this
          exact this
        · have q' := Classical.not_not.mp q
          refine zC_mono (jX3_leftOf (d + (r + 1) + 1) j2 (zle_sd hT4 hT)) ?_
          rintro rr h3 ⟨rfl, j3, _⟩
          refine ⟨_, rfl, ?_⟩
          refine zC_mono (ih (i + 1) _ h3 (by omega) (stl_sub j.lt hT) j3) ?_
          rintro rr h4 ⟨rfl, j4⟩
          refine ⟨_, rfl, ?_⟩
          have := IH h4 (by omega) j4
          rw [show wayU e (elN N.2 dd) r i T m = waysN e (elN N.2 dd) r (i + 1) (stl e (zsd T (2 ^ m))) from if_pos q'] at this
          rw [nI_add]
          exact this
    exact key 12 0 h (by omega) j
theorem zmx_n {a b : Nat} (ha : a < 2 ^ 31) (hb : b < 2 ^ 31) : zmx (nI a) (nI b) = nI (max a b) := by
  unfold zmx
  have : nI a < nI b ↔ a < b := by rw [fa_lt, nI_toInt ha, nI_toInt hb]; omega
  by_cases q : a < b
  · rw [if_pos (this.mpr q), Nat.max_eq_right (by omega)]
  · rw [if_neg (fun w => q (this.mp w)), Nat.max_eq_left (by omega)]
theorem zmax_n {a b : Nat} (ha : a < 2 ^ 31) (hb : b < 2 ^ 31) : zmax (nI a) (nI b) = nI (max a b) := by
  unfold zmax
  have l1 : nI a ≤ nI b ↔ a ≤ b := nI_leb ha hb
  have l2 : nI b < nI a ↔ b < a := by rw [fa_lt, nI_toInt ha, nI_toInt hb]; omega
  by_cases q : a ≤ b
  · have : ¬ b < a := by omega
    simp only [l1, l2, q, this, if_true, if_false, Nat.max_eq_right q]
  · have : b < a := by omega
    simp only [l1, l2, q, this, if_true, if_false, Nat.max_eq_left (show b ≤ a by omega)]
theorem jX3_believedFrom {G : ZG} (d : Nat) {S : Nat} {c e : ZQ5} {N : ZN} {dd n : Nat} (hr : tinRow N.2 dd n) : ∀ (r i T : Nat) (h : ZH), i + r = n → zle T S → JX h S c e N → zC G (d + r + 6) mX3_believedFrom [zr 1 0, zi (nI T), zr 3 dd, zi (nI i)] h (zJ S c e N (nI (belN e (elN N.2 dd) r i T))) := by
  obtain ⟨hd, hn, e4, e42, el⟩ := hr
  intro r
  induction r with
  | zero =>
    intro i T h hi hT j
    refine zC_of (by decide +kernel) (Nat.le_of_ble_eq_true rfl) (L := [zr 1 0, zi (nI T), zr 3 dd, zi (nI i), zu, zu]) ⟨rfl, ⟨rfl, ⟨rfl, ⟨rfl, trivial⟩⟩⟩⟩ ?_
    refine wX3_believedFrom_0 hd ?_
    rw [j.k0 (by decide), e4]
    exact br_t ((nI_leb (by omega) (by omega)).mpr (by omega)) ⟨rfl, j⟩
  | succ r ih =>
    intro i T h hi hT j
    refine zC_of (by decide +kernel) (Nat.le_of_ble_eq_true rfl) (L := [zr 1 0, zi (nI T), zr 3 dd, zi (nI i), zu, zu]) ⟨rfl, ⟨rfl, ⟨rfl, ⟨rfl, trivial⟩⟩⟩⟩ ?_
    refine wX3_believedFrom_0 hd ?_
    rw [j.k0 (by decide), e4]
    refine br_f (fun q => by have := (nI_leb (by omega) (by omega)).mp q; omega) ?_
    have l4 : nI i < 4 := by
      have : ∀ i, i < 4 → nI i < 4 := by decide
      exact this i (by omega)
    refine br_t l4 ?_
    have hT4 := zle_lt hT j.lt
    have bU : ∀ m, belU e (elN N.2 dd) r i T m ≤ 4 := by
      intro m
      unfold belU
      split
      · have := belN_le e (elN N.2 dd) r (i + 1) (stl e (zsd T (2 ^ m))); omega
      · exact Nat.zero_le _
    have key : ∀ (f m : Nat) (h1 : ZH), f + m = 12 → JX h1 S c e N → zT G (d + (r + 1) + 6) mX3_believedFrom 21 [zr 1 0, zi (nI T), zr 3 dd, zi (nI i), zi (nI (maxN i (belU e (elN N.2 dd) r i T) m)), zi (nI m)] [] h1 (zJ S c e N (nI (belN e (elN N.2 dd) (r + 1) i T))) := by
      intro f
      induction f with
      | zero =>
        intro m h1 hm j1
        have em : m = 12 := by omega
        subst em
        refine wX3_believedFrom_21 hd ?_
        exact br_t (by decide) ⟨rfl, j1⟩
      | succ f ih2 =>
        intro m h1 hm j1
        have hm' : m < 12 := by omega
        have IH := ih2 (m + 1)
        rw [maxN] at IH
        refine wX3_believedFrom_21 hd ?_
        refine br_f (nI_ge (a := m) (b := 12) (by omega) (by decide)) ?_
        rw [j1.k0 (by decide), e4, j1.at_n (show n ≤ 100 by omega) e4 el (show i < n by omega), zsd_p hT4 hm', nI_1, nI_1]
        refine ⟨n100 (by omega), ?_⟩
        refine zC_mono (jX3_isTold (d + (r + 1)) j1 hT hm' _) ?_
        rintro rr h2 ⟨rfl, j2⟩
        refine ⟨_, rfl, ?_⟩
        rw [zb_eq0]
        refine ⟨fun q => ?_, fun q => ?_⟩
        · have q' := Classical.not_not.mp q
          refine zC_mono (jX3_leftOf (d + (r + 1) + 1) j2 (zle_sd hT4 hT)) ?_
          rintro rr h3 ⟨rfl, j3, _⟩
          refine ⟨_, rfl, ?_⟩
          refine zC_mono (ih (i + 1) _ h3 (by omega) (stl_sub j.lt hT) j3) ?_
          rintro rr h4 ⟨rfl, j4⟩
          refine ⟨_, rfl, ?_⟩
          have := IH h4 (by omega) j4
          have b1 := bU m
          have b2 : maxN i (belU e (elN N.2 dd) r i T) m ≤ 4 := maxN_le (by omega) bU m
          rw [show belU e (elN N.2 dd) r i T m = belN e (elN N.2 dd) r (i + 1) (stl e (zsd T (2 ^ m))) from if_pos q'] at this b1
          rw [zmx_n (by omega) (by omega)]
          exact this
        · have := IH h2 (by omega) j2
          rw [show belU e (elN N.2 dd) r i T m = 0 from if_neg q, Nat.max_eq_left (Nat.zero_le _)] at this
          exact this
    exact key 12 0 h (by omega) j
/-- the first that gives a way -/
def fq (u : Nat → Nat) : Nat → Nat
  | 0 => 0
  | m + 1 => if sumN u m = 0 then m else fq u m
theorem sumN_0 {u : Nat → Nat} : ∀ {m : Nat}, (∀ q, q < m → u q = 0) → sumN u m = 0 := by
  intro m
  induction m with
  | zero => intro _; rfl
  | succ m ih => intro h; rw [sumN, ih (fun q hq => h q (by omega)), h m (by omega)]
theorem sumN_pos {u : Nat → Nat} {m : Nat} (h : 0 < u m) : ∀ (k : Nat), 0 < sumN u (m + 1 + k) := by
  intro k
  induction k with
  | zero => rw [Nat.add_zero, sumN]; omega
  | succ k ih => rw [← Nat.add_assoc, sumN]; omega
theorem fq_is {u : Nat → Nat} {m : Nat} (hz : ∀ q, q < m → u q = 0) (h : 0 < u m) : ∀ (k : Nat), fq u (m + 1 + k) = m := by
  intro k
  induction k with
  | zero => rw [Nat.add_zero, fq, if_pos (sumN_0 hz)]
  | succ k ih =>
    rw [← Nat.add_assoc, fq, if_neg]
    · exact ih
    · have := sumN_pos h k
      omega
theorem sumN_none {u : Nat → Nat} {m : Nat} (h : sumN u m = 0) : ∀ q, q < m → u q = 0 := by
  induction m with
  | zero => intro q hq; exact absurd hq (Nat.not_lt_zero q)
  | succ m ih =>
    intro q hq
    rw [sumN] at h
    by_cases z : q = m
    · rw [z]; omega
    · exact ih (by omega) q (by omega)
def tinNo (h0 : ZH) (x : Int32) : Int32 := if rowRefI h0 x = 0 then (if h0.1 42 0 x.toNatClampNeg ≤ 4 then 0 else -13) else rowRefI h0 x
theorem jX11_tinsRefused {G : ZG} (d : Nat) {h : ZH} {S : Nat} {c e : ZQ5} {N : ZN} (j : JX h S c e N) (x : Int32) : zC G (d + 3) mX11_tinsRefused [zr 0 0, zi x] h (fun r h' => r = some (zi (tinNo N.2 x)) ∧ h' = h) := by
  refine zC_of (by decide +kernel) (Nat.le_of_ble_eq_true rfl) (L := [zr 0 0, zi x, zu]) ⟨rfl, ⟨rfl, trivial⟩⟩ ?_
  refine wX11_tinsRefused_0 ?_
  rw [j.rr]
  unfold tinNo
  refine ⟨fun z => ?_, fun z => ⟨by rw [if_neg z], rfl⟩⟩
  obtain ⟨dd, n, t, hd, hn, ht, rfl, e4, e42, k1, k2, t1, t2, el⟩ := rr_0 j.sh0 z
  rw [if_pos z, nI_cl (show dd ≤ 4096 by omega), j.k0 (by decide), e4, e42]
  exact ⟨vpn hd (by decide), fun q => ⟨by rw [if_pos q], rfl⟩, fun q => ⟨by rw [if_neg q], rfl⟩⟩
theorem jX12_wrongTins {G : ZG} (d : Nat) {h : ZH} {S : Nat} {c e : ZQ5} {N : ZN} (j : JX h S c e N) (x : Int32) : zC G (d + 4) mX12_wrongTins [zr 5 0, zi x] h (fun r h' => r = some (zi (tinNo N.2 x)) ∧ h' = h) := by
  refine zC_of (by decide +kernel) (Nat.le_of_ble_eq_true rfl) (L := [zr 5 0, zi x, zu]) ⟨rfl, ⟨rfl, trivial⟩⟩ ?_
  refine wX12_wrongTins_0 ?_
  rw [j.wr]
  unfold tinNo
  refine ⟨fun z => ⟨by rw [if_neg z], rfl⟩, fun z => ?_⟩
  obtain ⟨dd, n, t, hd, hn, ht, rfl, e4, e42, k1, k2, t1, t2, el⟩ := rr_0 j.sh0 z
  rw [if_pos z, nI_cl (show dd ≤ 4096 by omega), j.k0 (by decide), e42, z]
  exact ⟨vpn hd (by decide), fun q => ⟨by rw [if_pos q], rfl⟩, fun q => ⟨by rw [if_neg q], rfl⟩⟩
theorem tin_0 {h0 : ZH} (s : SH h0) {x : Int32} (z : tinNo h0 x = 0) : ∃ dd n : Nat, x = nI dd ∧ dd < 8 ∧ tinRow h0 dd n := by
  unfold tinNo at z
  by_cases q : rowRefI h0 x = 0
  · rw [if_pos q] at z
    obtain ⟨dd, n, t, hd, hn, ht, rfl, e4, e42, k1, k2, t1, t2, el⟩ := rr_0 s q
    rw [nI_cl (show dd ≤ 4096 by omega), e42] at z
    by_cases w : nI n ≤ 4
    · have : nI n ≤ nI 4 := w
      rw [nI_leb (by omega) (by omega)] at this
      exact ⟨dd, n, rfl, hd, hd, this, e4, e42, fun i hi => (el i hi).1⟩
    · rw [if_neg w] at z; exact absurd z (by decide)
  · rw [if_neg q] at z; exact absurd z q
def frsN (e : ZQ5) (E : Nat → Int32) (S : Nat) : Nat → Int32
  | 0 => -4
  | r + 1 => if waysN e E (r + 1) 0 S = 0 then -4 else nI (fq (wayU e E r 0 S) 12)
def tinV (h0 : ZH) (e : ZQ5) (S : Nat) (x w : Int32) : Int32 := if 0 ≤ w ∧ w ≤ 1 then (if tinNo h0 x = 0 then (if w = 0 then nI (waysN e (elN h0 x.toNatClampNeg) (h0.1 42 0 x.toNatClampNeg).toNatClampNeg 0 S) else frsN e (elN h0 x.toNatClampNeg) S (h0.1 42 0 x.toNatClampNeg).toNatClampNeg) else tinNo h0 x) else -1
theorem n_le0 {v : Nat} (hv : v < 2 ^ 31) : nI v ≤ 0 ↔ v = 0 := by
  rw [show (0 : Int32) = nI 0 from by decide, nI_leb hv (by decide)]
  omega
theorem jX3_firstOfWays {G : ZG} (d : Nat) {h : ZH} {S : Nat} {c e : ZQ5} {N : ZN} {dd n : Nat} (hr : tinRow N.2 dd n) (j : JX h S c e N) : zC G (d + n + 7) mX3_firstOfWays [zr 1 0, zr 3 dd] h (zJ S c e N (frsN e (elN N.2 dd) S n)) := by
  have hr' := hr
  obtain ⟨hd, hn, e4, e42, el⟩ := hr'
  refine zC_of (by decide +kernel) (Nat.le_of_ble_eq_true rfl) (L := [zr 1 0, zr 3 dd, zu]) ⟨rfl, ⟨rfl, trivial⟩⟩ ?_
  refine wX3_firstOfWays_0 hd ?_
  cases n with
  | zero =>
    refine wX3_firstOfWays_2 (x2 := nI 0) hd ?_
    refine br_f (by decide) ?_
    rw [j.k0 (by decide), e4]
    exact br_t (by decide) ⟨rfl, j⟩
  | succ r =>
    have hS := j.lt
    have key : ∀ (f m : Nat) (h1 : ZH), f + m = 12 → (∀ q, q < m → wayU e (elN N.2 dd) r 0 S q = 0) → JX h1 S c e N → zT G (d + (r + 1) + 7) mX3_firstOfWays 2 [zr 1 0, zr 3 dd, zi (nI m)] [] h1 (zJ S c e N (if waysN e (elN N.2 dd) (r + 1) 0 S = 0 then -4 else nI (fq (wayU e (elN N.2 dd) r 0 S) 12))) := by
      intro f
      induction f with
      | zero =>
        intro m h1 hm hz j1
        have em : m = 12 := by omega
        subst em
        refine wX3_firstOfWays_2 hd ?_
        refine br_t (by decide) ⟨?_, j1⟩
        rw [waysN_s, if_pos (sumN_0 hz)]
      | succ f ih2 =>
        intro m h1 hm hz j1
        have hm' : m < 12 := by omega
        refine wX3_firstOfWays_2 hd ?_
        refine br_f (nI_ge (a := m) (b := 12) (by omega) (by decide)) ?_
        rw [j1.k0 (by decide), e4, j1.st6]
        refine br_f (fun q => by have := (n_le0 (by omega)).mp q; omega) ?_
        refine ⟨n100 (by omega), ?_⟩
        have a0 : shAt h1 dd (0 : Int32) = elN N.2 dd 0 := j1.at_n (i := 0) (show r + 1 ≤ 100 by omega) e4 el (by omega)
        rw [a0, nI_1]
        refine zC_mono (jX3_isTold (d + (r + 1) + 1) j1 (zle_rf S) hm' _) ?_
        rintro rr h2 ⟨rfl, j2⟩
        refine ⟨_, rfl, ?_⟩
        rw [zb_eq0]
        have nxt : ∀ h3, JX h3 S c e N → wayU e (elN N.2 dd) r 0 S m = 0 → zT G (d + (r + 1) + 7) mX3_firstOfWays 2 [zr 1 0, zr 3 dd, zi (nI (m + 1))] [] h3 (zJ S c e N (if waysN e (elN N.2 dd) (r + 1) 0 S = 0 then -4 else nI (fq (wayU e (elN N.2 dd) r 0 S) 12))) := by
          intro h3 j3 q
          refine ih2 (m + 1) h3 (by omega) (fun k hk => ?_) j3
          by_cases z : k = m
          · rw [z]; exact q
          · exact hz k (by omega)
        refine ⟨fun q => ?_, fun q => nxt h2 j2 (if_neg q)⟩
        have q' := Classical.not_not.mp q
        rw [j2.st6, zsd_p hS hm']
        refine zC_mono (jX3_leftOf (d + (r + 1) + 2) j2 (zsd_le hS)) ?_
        rintro rr h3 ⟨rfl, j3, _⟩
        refine ⟨_, rfl, ?_⟩
        have wf := jX3_waysFrom (G := G) (d + 1) hr r 1 _ h3 (by omega) (stl_sub (e := e) (U := 2 ^ m) hS (zle_rf S)) j3
        rw [show d + 1 + r + 6 = d + (r + 1) + 6 by omega] at wf
        refine zC_mono wf ?_
        rintro rr h4 ⟨rfl, j4⟩
        refine ⟨_, rfl, ?_⟩
        have wl := waysN_le e (elN N.2 dd) r 1 (stl e (zsd S (2 ^ m)))
        have p4 : 12 ^ r ≤ 12 ^ 4 := Nat.pow_le_pow_right (by decide) (by omega)
        have eu : wayU e (elN N.2 dd) r 0 S m = waysN e (elN N.2 dd) r 1 (stl e (zsd S (2 ^ m))) := if_pos q'
        rw [n_le0 (by omega), ← eu]
        refine ⟨fun w => nxt h4 j4 w, fun w => ⟨?_, j4⟩⟩
        have pos : 0 < wayU e (elN N.2 dd) r 0 S m := Nat.pos_of_ne_zero w
        have e12 : 12 = m + 1 + (11 - m) := by omega
        have s1 := sumN_pos pos (11 - m)
        have s2 := fq_is hz pos (11 - m)
        rw [← e12] at s1 s2
        rw [waysN_s, if_neg (by omega), s2]
    exact key 12 0 h (by omega) (fun q hq => absurd hq (Nat.not_lt_zero q)) j
theorem pX11_tins {G : ZG} (d : Nat) {h : ZH} {S : Nat} {c e : ZQ5} {N : ZN} (j : JX h S c e N) (x w : Int32) : zC G (d + 12) mX11_tins [zr 0 0, zi x, zi w] h (zJ S c e N (tinV N.2 e S x w)) := by
  refine zC_of (by decide +kernel) (Nat.le_of_ble_eq_true rfl) (L := [zr 0 0, zi x, zi w, zu]) ⟨rfl, ⟨rfl, ⟨rfl, trivial⟩⟩⟩ ?_
  refine wX11_tins_0 (d := d + 4) ?_
  unfold tinV
  refine ⟨fun a => ?_, fun a => ⟨by rw [if_neg a], j⟩⟩
  rw [if_pos a]
  refine zC_mono (jX11_tinsRefused (d + 8) j x) ?_
  rintro r h1 ⟨rfl, rfl⟩
  refine ⟨_, rfl, fun z => ?_, fun z => ⟨by rw [if_neg z], j⟩⟩
  rw [if_pos z]
  obtain ⟨dd, n, rfl, hd, hr⟩ := tin_0 j.sh0 z
  have hr' := hr
  obtain ⟨_, hn, e4, e42, el⟩ := hr'
  rw [nI_cl (show dd ≤ 4096 by omega), e42, nI_cl (show n ≤ 4096 by omega)]
  have e11 : d + (4 - n) + n + 7 = d + 4 + 7 := by omega
  refine ⟨fun w0 => ⟨vpn hd (by decide), ?_⟩, fun w0 => ⟨vpn hd (by decide), ?_⟩⟩
  · have k := jX3_firstOfWays (G := G) (d + (4 - n)) hr j
    rw [e11] at k
    refine zC_mono k ?_
    rintro r h2 ⟨rfl, j2⟩
    exact ⟨_, rfl, by rw [if_neg w0], j2⟩
  · have wt : zC G (d + (4 - n) + n + 7) mX3_waysTold [zr 1 0, zr 3 dd] h1 (zJ S c e N (nI (waysN e (elN N.2 dd) n 0 S))) := by
      refine zC_of (by decide +kernel) (Nat.le_of_ble_eq_true rfl) (L := [zr 1 0, zr 3 dd]) ⟨rfl, ⟨rfl, trivial⟩⟩ ?_
      refine wX3_waysTold_0 hd ?_
      rw [j.st6]
      refine zC_mono (jX3_waysFrom (d + (4 - n)) hr n 0 S h1 (by omega) (zle_rf S) j) ?_
      rintro r h2 ⟨rfl, j2⟩
      exact ⟨_, rfl, rfl, j2⟩
    rw [e11] at wt
    refine zC_mono wt ?_
    rintro r h2 ⟨rfl, j2⟩
    exact ⟨_, rfl, by rw [if_pos w0], j2⟩
def forgV (h0 : ZH) (e : ZQ5) (S : Nat) (x : Int32) : Int32 := if tinNo h0 x = 0 then (if nI (belN e (elN h0 x.toNatClampNeg) (h0.1 42 0 x.toNatClampNeg).toNatClampNeg 0 S) = h0.1 42 0 x.toNatClampNeg then -4 else nI (belN e (elN h0 x.toNatClampNeg) (h0.1 42 0 x.toNatClampNeg).toNatClampNeg 0 S)) else tinNo h0 x
theorem pX11_forged {G : ZG} (d : Nat) {h : ZH} {S : Nat} {c e : ZQ5} {N : ZN} (j : JX h S c e N) (x : Int32) : zC G (d + 12) mX11_forged [zr 0 0, zi x] h (zJ S c e N (forgV N.2 e S x)) := by
  refine zC_of (by decide +kernel) (Nat.le_of_ble_eq_true rfl) (L := [zr 0 0, zi x, zu]) ⟨rfl, ⟨rfl, trivial⟩⟩ ?_
  refine wX11_forged_0 (d := d + 4) ?_
  unfold forgV
  refine zC_mono (jX11_tinsRefused (d + 8) j x) ?_
  rintro r h1 ⟨rfl, rfl⟩
  refine ⟨_, rfl, fun z => ?_, fun z => ⟨by rw [if_neg z], j⟩⟩
  rw [if_pos z]
  obtain ⟨dd, n, rfl, hd, hr⟩ := tin_0 j.sh0 z
  have hr' := hr
  obtain ⟨_, hn, e4, e42, el⟩ := hr'
  rw [nI_cl (show dd ≤ 4096 by omega), e42, nI_cl (show n ≤ 4096 by omega)]
  have e11 : d + (4 - n) + n + 7 = d + 4 + 7 := by omega
  refine ⟨vpn hd (by decide), ?_⟩
  have ff : zC G (d + (4 - n) + n + 7) mX3_firstForged [zr 1 0, zr 3 dd] h1 (zJ S c e N (if nI (belN e (elN N.2 dd) n 0 S) = nI n then -4 else nI (belN e (elN N.2 dd) n 0 S))) := by
    refine zC_of (by decide +kernel) (Nat.le_of_ble_eq_true rfl) (L := [zr 1 0, zr 3 dd, zu]) ⟨rfl, ⟨rfl, trivial⟩⟩ ?_
    refine wX3_firstForged_0 hd ?_
    rw [j.st6]
    refine zC_mono (jX3_believedFrom (d + (4 - n)) hr n 0 S h1 (by omega) (zle_rf S) j) ?_
    rintro r h2 ⟨rfl, j2⟩
    refine ⟨_, rfl, ?_⟩
    rw [j2.k0 (by decide), e4]
    exact ⟨fun q => ⟨by rw [if_neg q], j2⟩, fun q => ⟨by rw [if_pos q], j2⟩⟩
  rw [e11] at ff
  refine zC_mono ff ?_
  rintro r h2 ⟨rfl, j2⟩
  exact ⟨_, rfl, rfl, j2⟩
