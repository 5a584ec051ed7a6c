/-! ===== the text of a hall: what is read ===== -/
def tch (c : Int32) : Nat := if (48 ≤ c ∧ c ≤ 57) ∨ c = 59 ∨ c = 112 ∨ c = 115 ∨ c = 120 then c.toNatClampNeg else 0
def tdg (t : Nat) : Bool := decide (48 ≤ t) && decide (t ≤ 57)
def tdb (t : Nat) : Nat := if t = 115 then 4 else if t = 120 ∨ t = 112 then 2 else 0
theorem tdg_iff {t : Nat} : tdg t = true ↔ 48 ≤ t ∧ t ≤ 57 := by unfold tdg; simp
theorem c48 (k : Nat) (hk : k < 2 ^ 31) : ((48 : Int32) ≤ nI k ↔ 48 ≤ k) ∧ (nI k ≤ (57 : Int32) ↔ k ≤ 57) := ⟨nI_leI (a := 48) (by decide) hk, nI_leI (b := 57) hk (by decide)⟩
theorem tch_c (c : Int32) : (∃ k : Nat, k < 2 ^ 31 ∧ c = nI k ∧ tch c = k ∧ ((48 ≤ k ∧ k ≤ 57) ∨ k = 59 ∨ k = 112 ∨ k = 115 ∨ k = 120)) ∨ (tch c = 0 ∧ ¬ (48 ≤ c ∧ c ≤ 57) ∧ ¬ c = 59 ∧ ¬ c = 112 ∧ ¬ c = 115 ∧ ¬ c = 120) := by
  by_cases h : (48 ≤ c ∧ c ≤ 57) ∨ c = 59 ∨ c = 112 ∨ c = 115 ∨ c = 120
  · refine Or.inl ?_
    have n0 : ¬ c < 0 := by
      intro q
      have := fa_trans q (show (0 : Int32) ≤ 48 by decide)
      rcases h with ⟨h1, _⟩ | rfl | rfl | rfl | rfl
      · exact (fa_of_lt this).2.1 h1
      · exact absurd q (by decide)
      · exact absurd q (by decide)
      · exact absurd q (by decide)
      · exact absurd q (by decide)
    obtain ⟨k, hk, rfl⟩ := nI_of n0
    refine ⟨k, hk, rfl, ?_, ?_⟩
    · unfold tch
      rw [if_pos h, nI_clamp hk]
    · rcases h with ⟨h1, h2⟩ | h | h | h | h
      · exact Or.inl ⟨(c48 k hk).1.mp h1, (c48 k hk).2.mp h2⟩
      · exact Or.inr (Or.inl ((nI_eq (b := 59) hk (by decide)).mp h))
      · exact Or.inr (Or.inr (Or.inl ((nI_eq (b := 112) hk (by decide)).mp h)))
      · exact Or.inr (Or.inr (Or.inr (Or.inl ((nI_eq (b := 115) hk (by decide)).mp h))))
      · exact Or.inr (Or.inr (Or.inr (Or.inr ((nI_eq (b := 120) hk (by decide)).mp h))))
  · refine Or.inr ⟨?_, ?_⟩
    · unfold tch
      rw [if_neg h]
    · simp only [not_or] at h
      exact ⟨h.1, h.2.1, h.2.2.1, h.2.2.2.1, h.2.2.2.2⟩
theorem tch_is {c : Int32} : (c = 59 ↔ tch c = 59) ∧ (c = 112 ↔ tch c = 112) ∧ (c = 115 ↔ tch c = 115) ∧ (c = 120 ↔ tch c = 120) ∧ ((48 ≤ c ∧ c ≤ 57) ↔ tdg (tch c) = true) ∧ (tdg (tch c) = true → c = nI (tch c)) := by
  rcases tch_c c with ⟨k, hk, rfl, e, h⟩ | ⟨e, h1, h2, h3, h4, h5⟩
  · rw [e]
    refine ⟨nI_eq (b := 59) hk (by decide), nI_eq (b := 112) hk (by decide), nI_eq (b := 115) hk (by decide), nI_eq (b := 120) hk (by decide), ?_, fun _ => rfl⟩
    rw [tdg_iff, (c48 k hk).1, (c48 k hk).2]
  · rw [e]
    refine ⟨⟨fun q => absurd q h2, fun q => absurd q (by decide)⟩, ⟨fun q => absurd q h3, fun q => absurd q (by decide)⟩, ⟨fun q => absurd q h4, fun q => absurd q (by decide)⟩, ⟨fun q => absurd q h5, fun q => absurd q (by decide)⟩, ⟨fun q => absurd q h1, fun q => absurd q (by decide)⟩, fun q => absurd q (by decide)⟩
theorem tch_db (c : Int32) : dbI c = nI (tdb (tch c)) := by
  obtain ⟨_, h112, h115, h120, _⟩ := tch_is (c := c)
  unfold dbI tdb
  by_cases a : c = 115
  · rw [if_pos a, if_pos (h115.mp a)]; rfl
  · rw [if_neg a, if_neg (fun q => a (h115.mpr q))]
    by_cases b : c = 120 ∨ c = 112
    · rw [if_pos b, if_pos (by rw [← h120, ← h112]; exact b)]; rfl
    · rw [if_neg b, if_neg (by rw [← h120, ← h112]; exact b)]; rfl
theorem tch_low8 : ∀ n, n < 256 → tch ((Int8.ofNat n).toInt32 &&& 255) = tch (Int8.ofNat n).toInt32 := by decide +kernel
theorem tch_low {c : Int32} (h : c = c.toInt8.toInt32) : tch (c &&& 255) = tch c := by
  have e : c.toInt8 = Int8.ofNat c.toInt8.toBitVec.toNat := by
    apply Int8.toBitVec_inj.mp
    show c.toInt8.toBitVec = BitVec.ofNat 8 c.toInt8.toBitVec.toNat
    simp
  have := tch_low8 c.toInt8.toBitVec.toNat (c.toInt8.toBitVec.isLt)
  rw [← e, ← h] at this
  exact this
/-- what the class reads at a place; what the model reads -/
def txC (h : ZH) (dd i : Nat) : Nat := tch (shAt h dd (nI i))
def hvM (X : ZH) (dd sz a : Nat) : Int32 := if sz ≤ a then -1 else (X.1 43 0 (100 * dd + a)) &&& 255
theorem tx_eq {h : ZH} {dd sz i : Nat} (hsz : sz ≤ 100) (hi : i ≤ 1000) (e4 : h.1 3 dd 4 = nI sz) (el : ∀ jj, jj < 100 → h.1 16 dd jj = h.1 43 0 (100 * dd + jj) ∧ h.1 16 dd jj = (h.1 16 dd jj).toInt8.toInt32) : tch (hvM h dd sz i) = txC h dd i := by
  unfold hvM txC shAt
  rw [e4]
  by_cases q : sz ≤ i
  · rw [if_pos q, if_neg (fun z => (fa_of_lt z.2).2.1 (nI_le q (by omega)))]
  · have hi' : i < sz := Nat.lt_of_not_le q
    rw [if_neg q, if_pos ⟨nI_pos' (by omega), nI_lt hi' (by omega)⟩, nI_cl (show i ≤ 4096 by omega), (el i (by omega)).1]
    have := (el i (by omega)).2
    rw [(el i (by omega)).1] at this
    exact tch_low this
/-- the model's reading: where it is, what it reads -/
def RD (X : ZH) (dd sz : Nat) (T : Nat → Nat) (a : Nat) : Prop := X.1 5 0 6 = nI a ∧ X.1 5 0 7 = nI (100 * dd) ∧ X.1 5 0 8 = nI sz ∧ ∀ i, i ≤ 1000 → tch (hvM X dd sz i) = T i
def eR (k j : Nat) : Bool := decide (k = 34) || decide (k = 5 ∧ j = 6)
theorem RD.to {X X' : ZH} {dd sz a a' : Nat} {T : Nat → Nat} (r : RD X dd sz T a) (e6 : X'.1 5 0 6 = nI a') (e7 : X'.1 5 0 7 = X.1 5 0 7) (e8 : X'.1 5 0 8 = X.1 5 0 8) (e43 : X'.1 43 0 = X.1 43 0) : RD X' dd sz T a' := by
  refine ⟨e6, by rw [e7]; exact r.2.1, by rw [e8]; exact r.2.2.1, fun i hi => ?_⟩
  rw [← r.2.2.2 i hi]
  unfold hvM
  rw [e43]
theorem RD.fx {X X' : ZH} {dd sz a a' : Nat} {T : Nat → Nat} (r : RD X dd sz T a) (f : zfx eR X X') (e6 : X'.1 5 0 6 = nI a') : RD X' dd sz T a' := r.to e6 (f 5 0 7 (by decide)).1 (f 5 0 8 (by decide)).1 (f.row 0 fun _ => by unfold eR; simp)
theorem RD.end0 {X : ZH} {dd sz a i : Nat} {T : Nat → Nat} (r : RD X dd sz T a) (hi : i ≤ 1000) (h : sz ≤ i) : T i = 0 := by
  rw [← r.2.2.2 i hi]
  unfold hvM
  rw [if_pos h]
  decide
theorem sX12_here {G : ZG} (d : Nat) {X : ZH} {dd sz a : Nat} {T : Nat → Nat} (hd : dd < 8) (hsz : sz ≤ 100) (r : RD X dd sz T a) (ha : a ≤ 100) : zC G (d + 1) mX12_here [zr 5 0] X (fun q X' => ∃ c : Int32, q = some (zi c) ∧ tch c = T a ∧ X' = X) := by
  refine zC_of (by decide +kernel) (Nat.le_of_ble_eq_true rfl) (L := [zr 5 0]) ⟨rfl, trivial⟩ ?_
  refine wX12_here_0 ?_
  obtain ⟨r1, r2, r3, r4⟩ := r
  rw [r1, r2, r3, nI_leI (show sz < 2 ^ 31 by omega) (show a < 2 ^ 31 by omega), nI_add]
  have := r4 a (by omega)
  unfold hvM at this
  refine ⟨fun q => ⟨_, rfl, ?_, rfl⟩, fun q => ⟨vpn (by omega) (by decide), _, rfl, ?_, rfl⟩⟩
  · rw [if_pos q] at this; exact this
  · rw [if_neg q] at this
    rw [nI_cl (show 100 * dd + a ≤ 4096 by omega)]
    exact this
def dgs (T : Nat → Nat) : Nat → Nat → Nat
  | _, 0 => 0
  | a, n + 1 => if tdg (T a) = true then dgs T (a + 1) n + 1 else 0
theorem dgs_le (T : Nat → Nat) : ∀ n a, dgs T a n ≤ n := by
  intro n
  induction n with
  | zero => intro a; exact Nat.le_refl _
  | succ n ih =>
    intro a
    rw [dgs]
    split
    · have := ih (a + 1); omega
    · omega
theorem dgs_add (T : Nat → Nat) : ∀ m n a, dgs T a (m + n) = if dgs T a m < m then dgs T a m else m + dgs T (a + m) n := by
  intro m
  induction m with
  | zero => intro n a; simp [dgs]
  | succ m ih =>
    intro n a
    rw [show m + 1 + n = (m + n) + 1 by omega, dgs, dgs]
    by_cases t : tdg (T a) = true
    · rw [if_pos t, if_pos t, ih]
      by_cases q : dgs T (a + 1) m < m
      · rw [if_pos q, if_pos (by omega)]
      · rw [if_neg q, if_neg (by omega), show a + 1 + m = a + (m + 1) by omega]
        omega
    · rw [if_neg t, if_neg t, if_pos (by omega)]
def num (T : Nat → Nat) (a : Nat) : Nat → Nat
  | 0 => 0
  | n + 1 => 10 * num T a n + (T (a + n) - 48)
theorem num_step {T : Nat → Nat} {a n : Nat} {c : Int32} (e : c = nI (T (a + n))) (h : 48 ≤ T (a + n)) : (10 * nI (num T a n) + c) - 48 = nI (num T a (n + 1)) := by
  have e10 : (10 : Int32) = nI 10 := by decide
  have e48 : (48 : Int32) = nI 48 := by decide
  rw [e, e10, e48, pk_mul, nI_add, nI_sub (by omega)]
  rw [num]
  congr 1
  omega
theorem zfx.s1' {ex : Nat → Nat → Bool} {h h' : ZH} {k i j : Nat} {v : Int32} (e : h' = zs1 h k i j v) (hk : ex k j = true) : zfx ex h h' := by
  rw [e]; exact zfx.s1 ex h v hk
theorem sX12_readsNumber {G : ZG} (d : Nat) {X : ZH} {dd sz a k n : Nat} {T : Nat → Nat} (hd : dd < 8) (hsz : sz ≤ 100) (r : RD X dd sz T a) (ha : a ≤ 100) (hk : k < 3) (hn : n ≤ 2) : zC G (d + 2) mX12_readsNumber [zr 5 0, zi (nI k), zi (nI n)] X (fun q X' => ∃ y : Int32, q = some (zi y) ∧ zfx eR X X' ∧ (∀ k', k' ≠ k → X'.1 34 0 k' = X.1 34 0 k') ∧ (dgs T a n < n → y = 0 ∧ RD X' dd sz T (a + dgs T a n) ∧ a + dgs T a n ≤ 100) ∧ (dgs T a n = n → y = 1 ∧ RD X' dd sz T (a + n) ∧ a + n ≤ 100 ∧ X'.1 34 0 k = nI (num T a n))) := by
  refine zC_of (by decide +kernel) (Nat.le_of_ble_eq_true rfl) (L := [zr 5 0, zi (nI k), zi (nI n), zu]) ⟨rfl, ⟨rfl, ⟨rfl, trivial⟩⟩⟩ ?_
  refine wX12_readsNumber_0 ?_
  have vk : vp_in (nI k) 3 := vpn hk (by decide)
  have ck : (nI k).toNatClampNeg = k := nI_cl (by omega)
  rw [ck]
  refine ⟨vk, ?_⟩
  intro h1 e1
  have key : ∀ (f i : Nat), f + i = n → ∀ X1 : ZH, zfx eR X X1 → (∀ k', k' ≠ k → X1.1 34 0 k' = X.1 34 0 k') → RD X1 dd sz T (a + i) → a + i ≤ 100 → X1.1 34 0 k = nI (num T a i) → zT G (d + 2) mX12_readsNumber 9 [zr 5 0, zi (nI k), zi (nI n), zi (nI i)] [] X1 (fun q X' => ∃ y : Int32, q = some (zi y) ∧ zfx eR X X' ∧ (∀ k', k' ≠ k → X'.1 34 0 k' = X.1 34 0 k') ∧ (dgs T (a + i) f < f → y = 0 ∧ RD X' dd sz T (a + i + dgs T (a + i) f) ∧ a + i + dgs T (a + i) f ≤ 100) ∧ (dgs T (a + i) f = f → y = 1 ∧ RD X' dd sz T (a + n) ∧ a + n ≤ 100 ∧ X'.1 34 0 k = nI (num T a n))) := by
    intro f
    induction f with
    | zero =>
      intro i hi X1 f1 g1 r1 b1 n1
      have ei : i = n := by omega
      subst ei
      refine wX12_readsNumber_9 ?_
      exact br_t (nI_le (Nat.le_refl _) (by omega)) ⟨_, rfl, f1, g1, fun q => absurd q (Nat.not_lt_zero _), fun _ => ⟨rfl, r1, b1, n1⟩⟩
    | succ f ih =>
      intro i hi X1 f1 g1 r1 b1 n1
      refine wX12_readsNumber_9 ?_
      refine br_f (nI_ge (show i < n by omega) (by omega)) ?_
      refine zC_mono (sX12_here d hd hsz r1 b1) ?_
      rintro q X2 ⟨c, rfl, ec, e2⟩
      subst e2
      refine ⟨c, rfl, ?_⟩
      have F := tch_is (c := c)
      rw [ec] at F
      rw [ck, F.2.2.2.2.1]
      refine ⟨fun t => ⟨vk, ?_⟩, fun t => ⟨_, rfl, f1, g1, fun _ => ?_, fun q => ?_⟩⟩
      · refine zC_mono (sX12_here d hd hsz r1 b1) ?_
        rintro q X3 ⟨c', rfl, ec', e3⟩
        subst e3
        refine ⟨c', rfl, vk, ?_⟩
        intro h7 e7 h8 e8
        have F' := tch_is (c := c')
        rw [ec'] at F'
        have t48 := tdg_iff.mp t
        have ez : T (a + i) ≠ 0 := by omega
        have lt : a + i < sz := Nat.lt_of_not_le fun q => ez (r1.end0 (by omega) q)
        rw [n1, num_step (F'.2.2.2.2.2 t) t48.1] at e7
        have s7 : h7.1 5 0 6 = nI (a + i) := by rw [e7, zs1_at, if_neg (by simp)]; exact r1.1
        rw [s7, nI_1] at e8
        have f8 : zfx eR X3 h8 := (zfx.s1' e7 (by unfold eR; simp)).tr (zfx.s1' e8 (by unfold eR; simp))
        have r8 : RD h8 dd sz T (a + (i + 1)) := r1.fx f8 (by rw [e8, zs1_at, if_pos ⟨rfl, rfl, rfl⟩]; rfl)
        rw [nI_1]
        refine zT_mono (ih (i + 1) (by omega) h8 (f1.tr f8) (fun k' hk' => ?_) r8 (by omega) ?_) ?_
        · rw [e8, zs1_at, if_neg (by simp), e7, zs1_at, if_neg (fun q => hk' q.2.2)]; exact g1 k' hk'
        · rw [e8, zs1_at, if_neg (by simp), e7, zs1_at, if_pos ⟨rfl, rfl, rfl⟩]
        · rintro q X' ⟨y, rfl, w1, w2, w3, w4⟩
          have ed : dgs T (a + i) (f + 1) = dgs T (a + (i + 1)) f + 1 := by rw [dgs, if_pos t]; rfl
          refine ⟨y, rfl, w1, w2, fun q => ?_, fun q => w4 (by omega)⟩
          have := w3 (by omega)
          rw [ed, show a + i + (dgs T (a + (i + 1)) f + 1) = a + (i + 1) + dgs T (a + (i + 1)) f by omega]
          exact this
      · have ed : dgs T (a + i) (f + 1) = 0 := by rw [dgs, if_neg t]
        rw [ed]
        exact ⟨rfl, r1, b1⟩
      · rw [dgs, if_neg t] at q
        omega
  have f1 : zfx eR X h1 := zfx.s1' e1 (by unfold eR; simp)
  exact key n 0 (by omega) h1 f1 (fun k' hk' => by rw [e1, zs1_at, if_neg (fun q => hk' q.2.2)]) (r.fx f1 (by rw [e1, zs1_at, if_neg (by simp)]; exact r.1)) ha (by rw [e1, zs1_at, if_pos ⟨rfl, rfl, rfl⟩]; rfl)
/-- the first place at which a statement's text goes wrong -/
def stB (T : Nat → Nat) (a : Nat) : Option Nat := if tdb (T a) = 0 then some a else if dgs T (a + 1) (tdb (T a)) < tdb (T a) then some (a + 1 + dgs T (a + 1) (tdb (T a))) else if T (a + 1 + tdb (T a)) = 59 then none else some (a + 1 + tdb (T a))
theorem dgs_at (T : Nat → Nat) : ∀ n a, dgs T a n = n → ∀ i, i < n → tdg (T (a + i)) = true := by
  intro n
  induction n with
  | zero => intro a _ i hi; omega
  | succ n ih =>
    intro a h i hi
    rw [dgs] at h
    by_cases t : tdg (T a) = true
    · rw [if_pos t] at h
      cases i with
      | zero => exact t
      | succ i =>
        have := ih (a + 1) (by omega) i (by omega)
        rw [show a + (i + 1) = a + 1 + i by omega]
        exact this
    · rw [if_neg t] at h; omega
theorem num1 (T : Nat → Nat) (a : Nat) : num T a 1 = T a - 48 := by
  simp [num]
set_option maxHeartbeats 1000000 in
theorem sX12_readsStatement {G : ZG} (d : Nat) {X : ZH} {dd sz a : Nat} {T : Nat → Nat} (hd : dd < 8) (hsz : sz ≤ 100) (r : RD X dd sz T a) (ha : a ≤ 100) : zC G (d + 3) mX12_readsStatement [zr 5 0] X (fun q X' => ∃ y : Int32, q = some (zi y) ∧ zfx eR X X' ∧ (∀ b, stB T a = some b → y = 0 ∧ RD X' dd sz T b ∧ b ≤ 100) ∧ (stB T a = none → y = 1 ∧ RD X' dd sz T (a + tdb (T a) + 2) ∧ a + tdb (T a) + 2 ≤ 100 ∧ X'.1 34 0 0 = nI (num T (a + 1) 2) ∧ (T a = 115 → X'.1 34 0 1 = nI (T (a + 3) - 48) ∧ X'.1 34 0 2 = nI (T (a + 4) - 48)))) := by
  refine zC_of (by decide +kernel) (Nat.le_of_ble_eq_true rfl) (L := [zr 5 0, zu, zu]) ⟨rfl, trivial⟩ ?_
  refine wX12_readsStatement_0 ?_
  refine zC_mono (sX12_here (d + 1) hd hsz r ha) ?_
  rintro q X1 ⟨c, rfl, ec, e1⟩
  subst e1
  refine ⟨c, rfl, ?_⟩
  intro h4 e4
  have F := tch_is (c := c)
  rw [ec] at F
  rw [r.1, nI_1] at e4
  have f4 : zfx eR X1 h4 := zfx.s1' e4 (by unfold eR; simp)
  have r4 : RD h4 dd sz T (a + 1) := r.fx f4 (by rw [e4, zs1_at, if_pos ⟨rfl, rfl, rfl⟩])
  have lt : T a ≠ 0 → a < sz := fun ez => Nat.lt_of_not_le fun q => ez (r.end0 (by omega) q)
  rw [F.2.1, F.2.2.1, F.2.2.2.1]
  -- the two digits of an x, of a p
  have two : tdb (T a) = 2 → zC G (d + 2) mX12_readsNumber [zr 5 0, zi 0, zi 2] h4 (fun r6 h5 => ∃ y7 : Int32, r6 = some (zi y7) ∧ (y7 = 0 → (fun q X' => ∃ y : Int32, q = some (zi y) ∧ zfx eR X1 X' ∧ (∀ b, stB T a = some b → y = 0 ∧ RD X' dd sz T b ∧ b ≤ 100) ∧ (stB T a = none → y = 1 ∧ RD X' dd sz T (a + tdb (T a) + 2) ∧ a + tdb (T a) + 2 ≤ 100 ∧ X'.1 34 0 0 = nI (num T (a + 1) 2) ∧ (T a = 115 → X'.1 34 0 1 = nI (T (a + 3) - 48) ∧ X'.1 34 0 2 = nI (T (a + 4) - 48)))) (some (zi 0)) h5) ∧ (¬ y7 = 0 → zC G (d + 2) mX12_here [zr 5 0] h5 (fun r9 h8 => ∃ y10 : Int32, r9 = some (zi y10) ∧ (y10 = 59 → ∀ h11 : ZH, h11 = zs1 h8 5 0 6 ((h8.1 5 0 6) + 1) → (fun q X' => ∃ y : Int32, q = some (zi y) ∧ zfx eR X1 X' ∧ (∀ b, stB T a = some b → y = 0 ∧ RD X' dd sz T b ∧ b ≤ 100) ∧ (stB T a = none → y = 1 ∧ RD X' dd sz T (a + tdb (T a) + 2) ∧ a + tdb (T a) + 2 ≤ 100 ∧ X'.1 34 0 0 = nI (num T (a + 1) 2) ∧ (T a = 115 → X'.1 34 0 1 = nI (T (a + 3) - 48) ∧ X'.1 34 0 2 = nI (T (a + 4) - 48)))) (some (zi 1)) h11) ∧ (¬ y10 = 59 → (fun q X' => ∃ y : Int32, q = some (zi y) ∧ zfx eR X1 X' ∧ (∀ b, stB T a = some b → y = 0 ∧ RD X' dd sz T b ∧ b ≤ 100) ∧ (stB T a = none → y = 1 ∧ RD X' dd sz T (a + tdb (T a) + 2) ∧ a + tdb (T a) + 2 ≤ 100 ∧ X'.1 34 0 0 = nI (num T (a + 1) 2) ∧ (T a = 115 → X'.1 34 0 1 = nI (T (a + 3) - 48) ∧ X'.1 34 0 2 = nI (T (a + 4) - 48)))) (some (zi 0)) h8)))) := by
    intro t2
    have a1 : a + 1 ≤ 100 := by
      have := lt (by intro q; rw [q] at t2; exact absurd t2 (by decide))
      omega
    have n115 : T a ≠ 115 := by intro q; rw [q] at t2; exact absurd t2 (by decide)
    refine zC_mono (sX12_readsNumber d hd hsz r4 a1 (k := 0) (n := 2) (by decide) (by decide)) ?_
    rintro q h5 ⟨y7, rfl, f5, -, w3, w4⟩
    refine ⟨y7, rfl, fun z => ?_, fun z => ?_⟩
    · have lt2 : dgs T (a + 1) 2 < 2 := Nat.lt_of_le_of_ne (dgs_le T 2 (a + 1)) fun q => by
        have := (w4 q).1
        rw [z] at this
        exact absurd this (by decide)
      have eb : stB T a = some (a + 1 + dgs T (a + 1) 2) := by
        unfold stB
        rw [t2, if_neg (by decide), if_pos lt2]
      refine ⟨_, rfl, f4.tr f5, fun b hb => ?_, fun hb => ?_⟩
      · rw [eb] at hb
        cases hb
        exact ⟨rfl, (w3 lt2).2⟩
      · rw [eb] at hb; cases hb
    · have eq2 : dgs T (a + 1) 2 = 2 := Nat.le_antisymm (dgs_le T 2 (a + 1)) (Nat.le_of_not_lt fun q => z (w3 q).1)
      obtain ⟨rfl, r5, b5, n5⟩ := w4 eq2
      refine zC_mono (sX12_here (d + 1) hd hsz r5 b5) ?_
      rintro q X6 ⟨c', rfl, ec', e6⟩
      subst e6
      have F' := tch_is (c := c')
      rw [ec'] at F'
      refine ⟨c', rfl, fun z9 => ?_, fun z9 => ?_⟩
      · intro h11 e11
        have z9' := F'.1.mp z9
        have eb : stB T a = none := by
          unfold stB
          rw [t2, if_neg (by decide), eq2, if_neg (Nat.lt_irrefl _), if_pos z9']
        have lt5 : a + 1 + 2 < sz := Nat.lt_of_not_le fun q => by
          have := r5.end0 (by omega) q
          rw [this] at z9'
          exact absurd z9' (by decide)
        rw [r5.1, nI_1] at e11
        have f11 : zfx eR X6 h11 := zfx.s1' e11 (by unfold eR; simp)
        refine ⟨_, rfl, (f4.tr f5).tr f11, fun b hb => (by rw [eb] at hb; cases hb), fun _ => ⟨rfl, ?_, ?_, ?_, fun q => absurd q n115⟩⟩
        · rw [t2]
          exact r5.fx f11 (by rw [e11, zs1_at, if_pos ⟨rfl, rfl, rfl⟩])
        · rw [t2]; omega
        · rw [e11, zs1_at, if_neg (by simp)]; exact n5
      · have z9' : T (a + 1 + 2) ≠ 59 := fun q => z9 (F'.1.mpr q)
        have eb : stB T a = some (a + 1 + 2) := by
          unfold stB
          rw [t2, if_neg (by decide), eq2, if_neg (Nat.lt_irrefl _), if_neg z9']
        refine ⟨_, rfl, f4.tr f5, fun b hb => ?_, fun hb => ?_⟩
        · rw [eb] at hb
          cases hb
          exact ⟨rfl, r5, b5⟩
        · rw [eb] at hb; cases hb
  refine ⟨fun t112 => two (by rw [t112]; rfl), fun n112 => ⟨fun t115 => ?_, fun n115 => ⟨fun t120 => two (by rw [t120]; rfl), fun n120 => ?_⟩⟩⟩
  · have t4 : tdb (T a) = 4 := by rw [t115]; rfl
    have a1 : a + 1 ≤ 100 := by
      have := lt (by rw [t115]; decide)
      omega
    have ad2 : dgs T (a + 1) 4 = if dgs T (a + 1) 2 < 2 then dgs T (a + 1) 2 else 2 + dgs T (a + 1 + 2) 2 := dgs_add T 2 2 (a + 1)
    have ad1 : dgs T (a + 1 + 2) 2 = if dgs T (a + 1 + 2) 1 < 1 then dgs T (a + 1 + 2) 1 else 1 + dgs T (a + 1 + 2 + 1) 1 := dgs_add T 1 1 (a + 1 + 2)
    have bad : ∀ (m : Nat) (X' : ZH), dgs T (a + 1) 4 = m → m < 4 → zfx eR X1 X' → RD X' dd sz T (a + 1 + m) → a + 1 + m ≤ 100 → ∃ y : Int32, some (zi 0) = some (zi y) ∧ zfx eR X1 X' ∧ (∀ b, stB T a = some b → y = 0 ∧ RD X' dd sz T b ∧ b ≤ 100) ∧ (stB T a = none → y = 1 ∧ RD X' dd sz T (a + tdb (T a) + 2) ∧ a + tdb (T a) + 2 ≤ 100 ∧ X'.1 34 0 0 = nI (num T (a + 1) 2) ∧ (T a = 115 → X'.1 34 0 1 = nI (T (a + 3) - 48) ∧ X'.1 34 0 2 = nI (T (a + 4) - 48))) := by
      intro m X' em hm f' r' b'
      have eb : stB T a = some (a + 1 + m) := by
        unfold stB
        rw [t4, if_neg (by decide), em, if_pos hm]
      refine ⟨_, rfl, f', fun b hb => ?_, fun hb => ?_⟩
      · rw [eb] at hb
        cases hb
        exact ⟨rfl, r', b'⟩
      · rw [eb] at hb; cases hb
    refine zC_mono (sX12_readsNumber d hd hsz r4 a1 (k := 0) (n := 2) (by decide) (by decide)) ?_
    rintro q h5 ⟨y5, rfl, f5, g5, w3, w4⟩
    refine ⟨y5, rfl, fun z => ?_, fun z => ?_⟩
    · have lt2 : dgs T (a + 1) 2 < 2 := Nat.lt_of_le_of_ne (dgs_le T 2 (a + 1)) fun q => by
        have := (w4 q).1
        rw [z] at this
        exact absurd this (by decide)
      exact bad (dgs T (a + 1) 2) h5 (by rw [ad2, if_pos lt2]) (by omega) (f4.tr f5) (w3 lt2).2.1 (w3 lt2).2.2
    · have eq2 : dgs T (a + 1) 2 = 2 := Nat.le_antisymm (dgs_le T 2 (a + 1)) (Nat.le_of_not_lt fun q => z (w3 q).1)
      obtain ⟨rfl, r5, b5, n5⟩ := w4 eq2
      refine zC_mono (sX12_readsNumber d hd hsz r5 b5 (k := 1) (n := 1) (by decide) (by decide)) ?_
      rintro q h6 ⟨y6, rfl, f6, g6, w5, w6⟩
      refine ⟨y6, rfl, fun z6 => ?_, fun z6 => ?_⟩
      · have lt1 : dgs T (a + 1 + 2) 1 < 1 := Nat.lt_of_le_of_ne (dgs_le T 1 (a + 1 + 2)) fun q => by
          have := (w6 q).1
          rw [z6] at this
          exact absurd this (by decide)
        have w := w5 lt1
        refine bad (2 + dgs T (a + 1 + 2) 1) h6 (by rw [ad2, if_neg (by omega), ad1, if_pos lt1]) (by omega) ((f4.tr f5).tr f6) ?_ (by omega)
        rw [← Nat.add_assoc]
        exact w.2.1
      · have eq1 : dgs T (a + 1 + 2) 1 = 1 := Nat.le_antisymm (dgs_le T 1 (a + 1 + 2)) (Nat.le_of_not_lt fun q => z6 (w5 q).1)
        obtain ⟨rfl, r6, b6, n6⟩ := w6 eq1
        refine zC_mono (sX12_readsNumber d hd hsz r6 b6 (k := 2) (n := 1) (by decide) (by decide)) ?_
        rintro q h7 ⟨y7, rfl, f7, g7, w7, w8⟩
        refine ⟨y7, rfl, fun z7 => ?_, fun z7 => ?_⟩
        · have lt1 : dgs T (a + 1 + 2 + 1) 1 < 1 := Nat.lt_of_le_of_ne (dgs_le T 1 (a + 1 + 2 + 1)) fun q => by
            have := (w8 q).1
            rw [z7] at this
            exact absurd this (by decide)
          have w := w7 lt1
          refine bad (2 + (1 + dgs T (a + 1 + 2 + 1) 1)) h7 (by rw [ad2, if_neg (by omega), ad1, if_neg (by omega)]) (by omega) (((f4.tr f5).tr f6).tr f7) ?_ (by omega)
          rw [show a + 1 + (2 + (1 + dgs T (a + 1 + 2 + 1) 1)) = a + 1 + 2 + 1 + dgs T (a + 1 + 2 + 1) 1 by omega]
          exact w.2.1
        · have eq0 : dgs T (a + 1 + 2 + 1) 1 = 1 := Nat.le_antisymm (dgs_le T 1 (a + 1 + 2 + 1)) (Nat.le_of_not_lt fun q => z7 (w7 q).1)
          obtain ⟨rfl, r7, b7, n7⟩ := w8 eq0
          have eq4 : dgs T (a + 1) 4 = 4 := by rw [ad2, if_neg (by omega), ad1, if_neg (by omega), eq0]
          refine zC_mono (sX12_here (d + 1) hd hsz r7 b7) ?_
          rintro q X8 ⟨c', rfl, ec', e8⟩
          subst e8
          have F' := tch_is (c := c')
          rw [ec'] at F'
          refine ⟨c', rfl, fun z9 => ?_, fun z9 => ?_⟩
          · intro h11 e11
            have z9' := F'.1.mp z9
            have eb : stB T a = none := by
              unfold stB
              rw [t4, if_neg (by decide), eq4, if_neg (Nat.lt_irrefl _), if_pos z9']
            have lt5 : a + 1 + 2 + 1 + 1 < sz := Nat.lt_of_not_le fun q => by
              have := r7.end0 (by omega) q
              rw [this] at z9'
              exact absurd z9' (by decide)
            rw [r7.1, nI_1] at e11
            have f11 : zfx eR X8 h11 := zfx.s1' e11 (by unfold eR; simp)
            have o11 : ∀ jj, h11.1 34 0 jj = X8.1 34 0 jj := fun jj => by rw [e11, zs1_at, if_neg (by simp)]
            refine ⟨_, rfl, (((f4.tr f5).tr f6).tr f7).tr f11, fun b hb => (by rw [eb] at hb; cases hb), fun _ => ⟨rfl, ?_, ?_, ?_, fun _ => ⟨?_, ?_⟩⟩⟩
            · rw [t4]
              exact r7.fx f11 (by rw [e11, zs1_at, if_pos ⟨rfl, rfl, rfl⟩])
            · rw [t4]; omega
            · rw [o11, g7 0 (by decide), g6 0 (by decide)]; exact n5
            · rw [o11, g7 1 (by decide), n6, num1]
            · rw [o11, n7, num1]
          · have z9' : T (a + 1 + 4) ≠ 59 := fun q => z9 (F'.1.mpr q)
            have eb : stB T a = some (a + 1 + 4) := by
              unfold stB
              rw [t4, if_neg (by decide), eq4, if_neg (Nat.lt_irrefl _), if_neg z9']
            refine ⟨_, rfl, ((f4.tr f5).tr f6).tr f7, fun b hb => ?_, fun hb => ?_⟩
            · rw [eb] at hb
              cases hb
              exact ⟨rfl, r7, b7⟩
            · rw [eb] at hb; cases hb
  · intro h32 e32
    have t0 : tdb (T a) = 0 := by
      unfold tdb
      rw [if_neg n115, if_neg (by simp [n112, n120])]
    have eb : stB T a = some a := by
      unfold stB
      rw [if_pos t0]
    rw [r4.1, show (1 : Int32) = nI 1 by decide, nI_sub (by omega)] at e32
    have f32 : zfx eR h4 h32 := zfx.s1' e32 (by unfold eR; simp)
    refine ⟨_, rfl, f4.tr f32, fun b hb => ?_, fun hb => ?_⟩
    · rw [eb] at hb
      cases hb
      exact ⟨rfl, r4.fx f32 (by rw [e32, zs1_at, if_pos ⟨rfl, rfl, rfl⟩]; rfl), ha⟩
    · rw [eb] at hb; cases hb
