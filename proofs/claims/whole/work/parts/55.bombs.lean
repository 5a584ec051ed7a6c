/-! ===== bombs: the sums, the class's side ===== -/
theorem sumN_cong {f g : Nat → Nat} : ∀ {n : Nat}, (∀ p, p < n → f p = g p) → sumN f n = sumN g n := by
  intro n
  induction n with
  | zero => intro _; rfl
  | succ n ih => intro h; rw [sumN, sumN, ih (fun p hp => h p (by omega)), h n (by omega)]
theorem sumN_split (f : Nat → Nat) (m : Nat) : ∀ n, sumN f (m + n) = sumN f m + sumN (fun k => f (m + k)) n := by
  intro n
  induction n with
  | zero => rfl
  | succ n ih => rw [← Nat.add_assoc, sumN, ih, sumN, Nat.add_assoc]
/-- turning places over within a set only moves the terms of a sum -/
theorem sumN_xor (f : Nat → Nat) : ∀ (k S : Nat), S < 2 ^ k → sumN (fun x => f (x ^^^ S)) (2 ^ k) = sumN f (2 ^ k) := by
  intro k
  induction k generalizing f with
  | zero =>
    intro S hS
    have : S = 0 := by omega
    subst this
    rfl
  | succ k ih =>
    intro S hS
    have p2 : 2 ^ (k + 1) = 2 ^ k + 2 ^ k := by rw [Nat.pow_succ]; omega
    have hi : ∀ x, x < 2 ^ k → (2 ^ k + x).testBit k = true ∧ ∀ i, i < k → (2 ^ k + x).testBit i = x.testBit i := by
      intro x hx
      have e : 2 ^ k + x = 2 ^ k * 1 ||| x := by rw [← Nat.two_pow_add_eq_or_of_lt hx 1, Nat.mul_one]
      refine ⟨?_, fun i hi => ?_⟩
      · rw [e, Nat.mul_one, Nat.testBit_or, Nat.testBit_two_pow]
        simp
      · rw [e, Nat.mul_one, Nat.testBit_or, Nat.testBit_two_pow]
        have : ¬ k = i := by omega
        simp [this]
    rw [p2, sumN_split, sumN_split f]
    by_cases b : S < 2 ^ k
    · have e2 : ∀ x, x < 2 ^ k → (2 ^ k + x) ^^^ S = 2 ^ k + (x ^^^ S) := by
        intro x hx
        have hx' : x ^^^ S < 2 ^ k := Nat.xor_lt_two_pow hx b
        have a1 : 2 ^ k + x = 2 ^ k ^^^ x := by
          have := Nat.two_pow_add_eq_or_of_lt hx 1
          rw [Nat.mul_one] at this
          rw [this]
          apply Nat.eq_of_testBit_eq
          intro i
          rw [Nat.testBit_or, Nat.testBit_xor, Nat.testBit_two_pow]
          by_cases z : k = i
          · subst z
            rw [Nat.testBit_lt_two_pow hx]; simp
          · simp [z]
        have a2 : 2 ^ k + (x ^^^ S) = 2 ^ k ^^^ (x ^^^ S) := by
          have := Nat.two_pow_add_eq_or_of_lt hx' 1
          rw [Nat.mul_one] at this
          rw [this]
          apply Nat.eq_of_testBit_eq
          intro i
          rw [Nat.testBit_or, Nat.testBit_xor (2 ^ k), Nat.testBit_two_pow]
          by_cases z : k = i
          · subst z
            rw [Nat.testBit_lt_two_pow hx']; simp
          · simp [z]
        rw [a1, a2, Nat.xor_assoc]
      rw [ih f S b]
      have := ih (fun x => f (2 ^ k + x)) S b
      rw [← this]
      congr 1
      exact sumN_cong fun x hx => by rw [e2 x hx]
    · -- the top place turns over: the halves change places
      have hS' : S - 2 ^ k < 2 ^ k := by omega
      have eS : S = 2 ^ k + (S - 2 ^ k) := by omega
      have xo : ∀ y, y < 2 ^ k → 2 ^ k + y = 2 ^ k ^^^ y := by
        intro y hy
        have := Nat.two_pow_add_eq_or_of_lt hy 1
        rw [Nat.mul_one] at this
        rw [this]
        apply Nat.eq_of_testBit_eq
        intro i
        rw [Nat.testBit_or, Nat.testBit_xor, Nat.testBit_two_pow]
        by_cases z : k = i
        · subst z
          rw [Nat.testBit_lt_two_pow hy]; simp
        · simp [z]
      have e1 : ∀ x, x < 2 ^ k → x ^^^ S = 2 ^ k + (x ^^^ (S - 2 ^ k)) := by
        intro x hx
        rw [xo _ (Nat.xor_lt_two_pow hx hS')]
        have q : S = 2 ^ k ^^^ (S - 2 ^ k) := by rw [← xo _ hS']; exact eS
        have : x ^^^ S = x ^^^ (2 ^ k ^^^ (S - 2 ^ k)) := congrArg (x ^^^ ·) q
        rw [this, ← Nat.xor_assoc, Nat.xor_comm x (2 ^ k), Nat.xor_assoc]
      have e2 : ∀ x, x < 2 ^ k → (2 ^ k + x) ^^^ S = x ^^^ (S - 2 ^ k) := by
        intro x hx
        have q : S = 2 ^ k ^^^ (S - 2 ^ k) := by rw [← xo _ hS']; exact eS
        have : (2 ^ k + x) ^^^ S = (2 ^ k ^^^ x) ^^^ (2 ^ k ^^^ (S - 2 ^ k)) := by
          rw [← xo x hx]
          exact congrArg ((2 ^ k + x) ^^^ ·) q
        rw [this, Nat.xor_comm (2 ^ k) x, Nat.xor_assoc, ← Nat.xor_assoc (2 ^ k) (2 ^ k), Nat.xor_self, Nat.zero_xor]
      have i1 := ih (fun x => f (2 ^ k + x)) (S - 2 ^ k) hS'
      have i2 := ih f (S - 2 ^ k) hS'
      rw [← i1, ← i2, Nat.add_comm]
      congr 1
      · exact sumN_cong fun x hx => by rw [e2 x hx]
      · exact sumN_cong fun x hx => by rw [e1 x hx]
/-- the ways of one choice of what is spared -/
def bmU (e : ZQ5) (S k b X : Nat) : Nat := if zsd X S = 0 ∧ k ≤ zpc (stl e X) then b ^ zpc X else 0
def bmA (e : ZQ5) (S k b : Nat) : Nat := sumN (bmU e S k b) 4096
theorem bmU_le {e : ZQ5} {S k b : Nat} (hb1 : 1 ≤ b) (hb : b ≤ 9) (X : Nat) : bmU e S k b X ≤ 9 ^ 12 := by
  unfold bmU
  split
  · exact Nat.le_trans (Nat.pow_le_pow_left hb _) (Nat.pow_le_pow_right (by decide) (zpc_le X))
  · exact Nat.zero_le _
theorem bm_lt {e : ZQ5} {S k b : Nat} (hb1 : 1 ≤ b) (hb : b ≤ 9) (n : Nat) (hn : n ≤ 4096) : sumN (bmU e S k b) n < 2 ^ 62 := by
  have := sumN_le (bmU_le (e := e) (S := S) (k := k) hb1 hb) n
  have h2 : n * 9 ^ 12 ≤ 4096 * 9 ^ 12 := Nat.mul_le_mul_right _ hn
  have h3 : 4096 * 9 ^ 12 < 2 ^ 62 := by decide
  omega
theorem pwL_n (b : Nat) : ∀ n, pwL (lN b) n = lN (b ^ n) := by
  intro n
  induction n with
  | zero => rfl
  | succ n ih => rw [pwL, ih, lN_mul, Nat.pow_succ]
def eO (k _j : Nat) : Bool := decide (k = 20)
theorem eA_O {k j : Nat} (h : eA k j = false) : eO k j = false := by
  unfold eA at h
  unfold eO
  simp only [Bool.or_eq_false_iff, decide_eq_false_iff_not] at h ⊢
  omega
theorem JX.fO {h h' : ZH} {S : Nat} {c e : ZQ5} {N : ZN} (j : JX h S c e N) (a : zfx eO h h') : JX h' S c e N := j.fm a (fun _ _ => eA_O) (fun _ => by unfold eO; simp) (fun _ => by unfold eO; simp)
theorem n12_lt {i : Nat} (hi : i ≤ 13) : (12 : Int32) < nI i ↔ i = 13 := by
  rw [fa_lt, nI_toInt (by omega)]
  have : (12 : Int32).toInt = 12 := by decide
  rw [this]
  omega
theorem jX3_bombed {G : ZG} (d : Nat) {h : ZH} {S k t : Nat} {c e : ZQ5} {N : ZN} (j : JX h S c e N) (hk : k ≤ 12) (ht : 2 ≤ t) (ht2 : t ≤ 10) : zC G (d + 5) mX3_bombedWaysLeaving [zr 1 0, zi (nI k), zi (nI t)] h (fun r h' => r = some (zl (lN (bmA e S k (t - 1)))) ∧ JX h' S c e N) := by
  refine zC_of (by decide +kernel) (Nat.le_of_ble_eq_true rfl) (L := [zr 1 0, zi (nI k), zi (nI t), zu, zu, zu]) ⟨rfl, ⟨rfl, ⟨rfl, trivial⟩⟩⟩ ?_
  refine wX3_bombedWaysLeaving_0 ?_
  have hS := j.lt
  have key2 : ∀ (f n : Nat) (h1 : ZH), f + n = 4096 → JX h1 S c e N → (∀ i, i < 13 → h1.2 20 0 i = lN ((t - 1) ^ i)) → zT G (d + 5) mX3_bombedWaysLeaving 32 [zr 1 0, zi (nI k), zi (nI t), zl (lN (sumN (bmU e S k (t - 1)) n)), zu, zi (nI n)] [] h1 (fun r h' => r = some (zl (lN (bmA e S k (t - 1)))) ∧ JX h' S c e N) := by
    intro f
    induction f with
    | zero =>
      intro n h1 hn j1 o1
      have en : n = 4096 := by omega
      subst en
      refine wX3_bombedWaysLeaving_32 ?_
      exact br_t ((nI_4095 (Nat.le_refl _)).mpr rfl) ⟨rfl, j1⟩
    | succ f ih =>
      intro n h1 hn j1 o1
      have hn' : n < 4096 := by omega
      have IH := ih (n + 1)
      rw [sumN] at IH
      refine wX3_bombedWaysLeaving_32 ?_
      refine br_f (fun q => by have := (nI_4095 (show n ≤ 4096 by omega)).mp q; omega) ?_
      rw [j1.st6, zi_not hn', zn0 (zsd_lt hn'), nI_1, bcI_nI hn']
      refine ⟨fun a => ?_, fun a => ?_⟩
      · have hle : zle n S := (zsd_z hn').mp a
        refine zC_mono (jX3_leftOf d j1 hle) ?_
        rintro r h2 ⟨rfl, j2, f2⟩
        refine ⟨_, rfl, ?_⟩
        have o2 : ∀ i, i < 13 → h2.2 20 0 i = lN ((t - 1) ^ i) := fun i hi => by
          rw [(f2 20 0 i (eF_no (by decide) (by decide) (by decide))).2]
          exact o1 i hi
        have pl := zpc_le (stl e n)
        have pn := zpc_le n
        rw [bcI_nI (stl_lt e hn')]
        have lt : nI (zpc (stl e n)) < nI k ↔ zpc (stl e n) < k := by rw [fa_lt, nI_toInt (by omega), nI_toInt (by omega)]; omega
        rw [lt]
        refine ⟨fun q => ?_, fun q => ⟨vpn (show zpc n < 13 by omega) (by decide), ?_⟩⟩
        · have := IH h2 (by omega) j2 o2
          rw [show bmU e S k (t - 1) n = 0 from if_neg (fun z => by omega), Nat.add_zero] at this
          exact this
        · have := IH h2 (by omega) j2 o2
          rw [show bmU e S k (t - 1) n = (t - 1) ^ zpc n from if_pos ⟨a, by omega⟩] at this
          rw [nI_cl (show zpc n ≤ 4096 by omega), o2 _ (by omega), lN_add]
          exact this
      · have := IH h1 (by omega) j1 o1
        rw [show bmU e S k (t - 1) n = 0 from if_neg (fun z => a z.1), Nat.add_zero] at this
        exact this
  have key1 : ∀ (f n : Nat) (h1 : ZH), f + n = 13 → JX h1 S c e N → (∀ i, i < n → h1.2 20 0 i = lN ((t - 1) ^ i)) → zT G (d + 5) mX3_bombedWaysLeaving 2 [zr 1 0, zi (nI k), zi (nI t), zi (nI n), zu, zu] [] h1 (fun r h' => r = some (zl (lN (bmA e S k (t - 1)))) ∧ JX h' S c e N) := by
    intro f
    induction f with
    | zero =>
      intro n h1 hn j1 o1
      have en : n = 13 := by omega
      subst en
      refine wX3_bombedWaysLeaving_2 ?_
      exact br_t ((n12_lt (Nat.le_refl _)).mpr rfl) (key2 4096 0 h1 (by omega) j1 o1)
    | succ f ih =>
      intro n h1 hn j1 o1
      refine wX3_bombedWaysLeaving_2 ?_
      refine br_f (fun q => by have := (n12_lt (show n ≤ 13 by omega)).mp q; omega) ?_
      refine zC_mono (sX11_powerOf (d + 3) (show n ≤ 4096 by omega)) ?_
      rintro r h2 ⟨rfl, rfl⟩
      refine ⟨_, rfl, vpn (show n < 13 by omega) (by decide), ?_⟩
      have tb : nI t - 1 = nI (t - 1) := by
        rw [show (1 : Int32) = nI 1 from by decide, nI_sub (by omega)]
      rw [tb, nI_l (by omega), pwL_n, nI_cl (show n ≤ 4096 by omega), nI_1]
      intro h4 e4
      refine ih (n + 1) h4 (by omega) (by rw [e4]; exact j1.fO (zfx.s2 eO _ _ rfl)) (fun i hi => ?_)
      rw [e4, zs2_at]
      by_cases z : i = n
      · subst z; rw [if_pos ⟨rfl, rfl, rfl⟩]
      · rw [if_neg (fun q => z q.2.2)]; exact o1 i (by omega)
  exact key1 13 0 h (by omega) j (fun i hi => absurd hi (Nat.not_lt_zero i))
