/-! ===== cut, to ground, both sides ===== -/
theorem zsd_z {T O : Nat} (hT : T < 4096) : zsd T O = 0 ↔ zle T O := by
  constructor
  · intro h p hp
    have := congrArg (fun n => Nat.testBit n p) h
    simp only [zsd_bit hT, hp, Nat.zero_testBit, Bool.true_and, Bool.not_eq_false'] at this
    exact this
  · intro h
    apply Nat.eq_of_testBit_eq
    intro p
    rw [zsd_bit hT, Nat.zero_testBit]
    by_cases q : T.testBit p = true
    · rw [h p q]; simp
    · simp [q]
def goodC (e : ZQ5) (S p T : Nat) : Bool := (decide (zsd T S = 0) && !T.testBit p) && !(stl e (zsd S T)).testBit p
theorem good_in {S p T : Nat} (hS : S < 4096) (hT : T < 4096) : zsd T (zsd S (2 ^ p)) = 0 ↔ (zsd T S = 0 ∧ ¬ T.testBit p = true) := by
  rw [zsd_z hT, zsd_z hT]
  constructor
  · intro h
    refine ⟨zle_tr h (zsd_le hS), fun q => ?_⟩
    have := h p q
    rw [zsd_bit hS, zp_bit] at this
    simp at this
  · rintro ⟨h, q⟩ r hr
    rw [zsd_bit hS, zp_bit, h r hr]
    by_cases z : p = r
    · subst z; exact absurd hr q
    · simp [z]
theorem nI_4095 {i : Nat} (hi : i ≤ 4096) : (4095 : Int32) < nI i ↔ i = 4096 := by
  rw [fa_lt, nI_toInt (by omega)]
  have : (4095 : Int32).toInt = 4095 := by decide
  rw [this]
  omega
def cutV (e : ZQ5) (S : Nat) (x : Int32) : Int32 := if stN S x = 0 then optV (bestN (goodC e S x.toNatClampNeg) 4096) else stN S x
theorem pX11_cut {G : ZG} (d : Nat) {h : ZH} {S : Nat} {c e : ZQ5} {N : ZN} (j : JX h S c e N) (x : Int32) : zC G (d + 6) mX11_cut [zr 0 0, zi x] h (zJ S c e N (cutV e S x)) := by
  refine zC_of (by decide +kernel) (Nat.le_of_ble_eq_true rfl) (L := [zr 0 0, zi x, zu]) ⟨rfl, ⟨rfl, trivial⟩⟩ ?_
  refine wX11_cut_0 ?_
  rw [j.stR]
  unfold cutV
  refine ⟨fun s => ?_, fun s => ⟨by rw [if_neg s], j⟩⟩
  rw [if_pos s]
  obtain ⟨p, hp, rfl, hb⟩ := stN_0 j.lt s
  rw [nI_cl (show p ≤ 4096 by omega)]
  have main : zC G (d + 5) mX3_fewestToFell [zr 1 0, zi (nI p)] h (zJ S c e N (optV (bestN (goodC e S p) 4096))) := by
    refine zC_of (by decide +kernel) (Nat.le_of_ble_eq_true rfl) (L := [zr 1 0, zi (nI p), zu, zu, zu, zu]) ⟨rfl, ⟨rfl, trivial⟩⟩ ?_
    refine wX3_fewestToFell_0 ?_
    rw [j.st6, zsd_p j.lt hp]
    have key : ∀ (f i : Nat), f + i = 4096 → (∀ k, k < i → ¬ goodC e S p (seqN k) = true) → ∀ (y : Int32) (h1 : ZH), (i ≤ 4095 → y = nI (seqN i)) → JX h1 S c e N → zT G (d + 5) mX3_fewestToFell 19 [zr 1 0, zi (nI p), zi (nI (zsd S (2 ^ p))), zi y, zi (nI i), zu] [] h1 (zJ S c e N (optV (bestN (goodC e S p) 4096))) := by
      intro f
      induction f with
      | zero =>
        intro i hi hn y h1 _ j1
        have e : i = 4096 := by omega
        subst e
        refine wX3_fewestToFell_19 ?_
        refine br_t ((nI_4095 (Nat.le_refl _)).mpr rfl) ⟨?_, j1⟩
        rw [seq_none (fun k hk => hn k (by omega))]
        rfl
      | succ f ih =>
        intro i hi hn y h1 hy j1
        have hi' : i ≤ 4095 := by omega
        have sl := seq_lt hi'
        rw [hy hi']
        refine wX3_fewestToFell_19 ?_
        refine br_f (fun q => by have := (nI_4095 (show i ≤ 4096 by omega)).mp q; omega) ?_
        rw [zi_not sl, zn0 (zsd_lt sl), good_in j.lt sl, nI_1]
        have next : ∀ h2, JX h2 S c e N → ¬ goodC e S p (seqN i) = true → zT G (d + 5) mX3_fewestToFell 19 [zr 1 0, zi (nI p), zi (nI (zsd S (2 ^ p))), zi (nextI (nI (seqN i))), zi (nI (i + 1)), zu] [] h2 (zJ S c e N (optV (bestN (goodC e S p) 4096))) := by
          intro h2 j2 g
          refine ih (i + 1) (by omega) (fun k hk => ?_) _ h2 (fun q => (seq_ok i (by omega)).2.2) j2
          by_cases z : k = i
          · rw [z]; exact g
          · exact hn k (by omega)
        refine ⟨fun a => next h1 j1 ?_, fun a => ?_⟩
        · unfold goodC
          intro g
          simp only [Bool.and_eq_true, decide_eq_true_eq, Bool.not_eq_true'] at g
          exact a ⟨g.1.1, by rw [g.1.2]; decide⟩
        · rw [j1.st6, zi_not j.lt]
          refine zC_mono (jX3_leftOf d j1 (zsd_le j.lt)) ?_
          rintro r h2 ⟨rfl, j2, _⟩
          refine ⟨_, rfl, ?_⟩
          rw [zbit0 (stl_lt e (zsd_lt j.lt)) (show p < 32 by omega)]
          refine ⟨fun b => next h2 j2 ?_, fun b => ⟨?_, j2⟩⟩
          · unfold goodC
            intro g
            simp only [Bool.and_eq_true, decide_eq_true_eq, Bool.not_eq_true'] at g
            exact b (by rw [g.2]; decide)
          · have g : goodC e S p (seqN i) = true := by
              unfold goodC
              simp only [Bool.and_eq_true, decide_eq_true_eq, Bool.not_eq_true']
              exact ⟨⟨a.1, eq_false_of_ne_true a.2⟩, eq_false_of_ne_true b⟩
            rw [seq_best hi' g hn]
            rfl
    exact key 4096 0 (by omega) (fun k hk => absurd hk (Nat.not_lt_zero k)) 0 h (fun _ => rfl) j
  refine zC_mono main ?_
  rintro r h' ⟨rfl, j'⟩
  exact ⟨_, rfl, rfl, j'⟩
theorem nI_4096 {i : Nat} (hi : i ≤ 4096) : (4096 : Int32) ≤ nI i ↔ i = 4096 := by
  rw [fa_le, nI_toInt (by omega)]
  have : (4096 : Int32).toInt = 4096 := by decide
  rw [this]
  omega
theorem pX12_cut {G : ZG} (d : Nat) {h : ZH} {S : Nat} {c e : ZQ5} {N : ZN} (j : JX h S c e N) (x : Int32) : zC G (d + 7) mX12_cut [zr 5 0, zi x] h (zJ S c e N (cutV e S x)) := by
  refine zC_of (by decide +kernel) (Nat.le_of_ble_eq_true rfl) (L := [zr 5 0, zi x, zu, zu, zu]) ⟨rfl, ⟨rfl, trivial⟩⟩ ?_
  refine wX12_cut_0 ?_
  rw [j.stW]
  unfold cutV
  refine ⟨fun s => ?_, fun s => ⟨by rw [if_neg s], j⟩⟩
  rw [if_pos s]
  obtain ⟨p, hp, rfl, hb⟩ := stN_0 j.lt s
  rw [nI_cl (show p ≤ 4096 by omega), s]
  have key : ∀ (f n : Nat), f + n = 4096 → ∀ (h1 : ZH), JX h1 S c e N → zT G (d + 7) mX12_cut 18 [zr 5 0, zi (nI p), zi 0, zi (optV (bestN (goodC e S p) n)), zi (nI n)] [] h1 (zJ S c e N (optV (bestN (goodC e S p) 4096))) := by
    intro f
    induction f with
    | zero =>
      intro n hn h1 j1
      have e : n = 4096 := by omega
      subst e
      refine wX12_cut_18 ?_
      exact br_t ((nI_4096 (Nat.le_refl _)).mpr rfl) ⟨rfl, j1⟩
    | succ f ih =>
      intro n hn h1 j1
      have hn' : n < 4096 := by omega
      have IH := ih (n + 1) (by omega)
      obtain ⟨b1, b2, b3⟩ := best_step (good := goodC e S p) hn'
      refine wX12_cut_18 ?_
      refine br_f (fun q => by have := (nI_4096 (show n ≤ 4096 by omega)).mp q; omega) ?_
      rw [j1.m0, zi_not hn', zn0 (zsd_lt hn'), hasI_iff hn' (show p < 32 by omega), nI_1]
      have no : ∀ h2, JX h2 S c e N → bestN (goodC e S p) (n + 1) = bestN (goodC e S p) n → zT G (d + 7) mX12_cut 18 [zr 5 0, zi (nI p), zi 0, zi (optV (bestN (goodC e S p) n)), zi (nI (n + 1))] [] h2 (zJ S c e N (optV (bestN (goodC e S p) 4096))) := fun h2 j2 q => by
        have := IH h2 j2
        rw [q] at this
        exact this
      have yes : ∀ h2, JX h2 S c e N → bestN (goodC e S p) (n + 1) = some n → zT G (d + 7) mX12_cut 18 [zr 5 0, zi (nI p), zi 0, zi (nI n), zi (nI (n + 1))] [] h2 (zJ S c e N (optV (bestN (goodC e S p) 4096))) := fun h2 j2 q => by
        have := IH h2 j2
        rw [q] at this
        exact this
      have gd : goodC e S p n = true ↔ (zsd n S = 0 ∧ ¬ n.testBit p = true) ∧ ¬ (stl e (zsd S n)).testBit p = true := by
        unfold goodC
        simp
      refine ⟨fun a => no h1 j1 (b1 fun g => a (gd.mp g).1.1), fun a => ⟨fun b => no h1 j1 (b1 fun g => (gd.mp g).1.2 b), fun b => ⟨fun o => ?_, fun o => ⟨fun l => ?_, fun l => ?_⟩⟩⟩⟩
      · refine zC_mono (jX12_leftWithout d j1 j.lt) ?_
        rintro r h2 ⟨rfl, _, j2, _⟩
        refine ⟨_, rfl, ?_⟩
        rw [hasI_iff (stl_lt e (zsd_lt j.lt)) (show p < 32 by omega)]
        exact ⟨fun t => no h2 j2 (b1 fun g => (gd.mp g).2 t), fun t => yes h2 j2 (b2 (gd.mpr ⟨⟨a, b⟩, t⟩) o)⟩
      · refine zC_mono (jX12_leftWithout d j1 j.lt) ?_
        rintro r h2 ⟨rfl, _, j2, _⟩
        refine ⟨_, rfl, ?_⟩
        rw [hasI_iff (stl_lt e (zsd_lt j.lt)) (show p < 32 by omega)]
        exact ⟨fun t => no h2 j2 (b1 fun g => (gd.mp g).2 t), fun t => yes h2 j2 ((b3 (gd.mpr ⟨⟨a, b⟩, t⟩) o).1 l)⟩
      · by_cases g : goodC e S p n = true
        · exact no h1 j1 ((b3 g o).2 l)
        · exact no h1 j1 (b1 g)
  exact key 4096 0 (by omega) h j
/-- to ground -/
def goodG (e : ZQ5) (S T : Nat) : Bool := decide (zsd T S = 0) && decide (stl e (zsd S T) < 16)
theorem zlow {L : Nat} (hL : L < 4096) : zsd L 15 = 0 ↔ L < 16 := by
  rw [zsd_z hL]
  constructor
  · intro h
    have : L ≤ 15 := zle_le h
    omega
  · intro h p hp
    by_cases z : p < 4
    · have : ∀ p, p < 4 → (15 : Nat).testBit p = true := by decide
      exact this p z
    · rw [Nat.testBit_lt_two_pow (Nat.lt_of_lt_of_le h (show 2 ^ 4 ≤ 2 ^ p from Nat.pow_le_pow_right (by decide) (by omega)))] at hp
      cases hp
theorem n16 {L : Nat} (hL : L < 4096) : nI L &&& (-16) = 0 ↔ L < 16 := by
  rw [show (-16 : Int32) = nI 15 ^^^ (-1) from by decide, zi_not hL, zn0 (zsd_lt hL), zlow hL]
theorem n16' {L : Nat} (hL : L < 4096) : (16 : Int32) ≤ nI L ↔ ¬ L < 16 := by
  rw [fa_le, nI_toInt (by omega)]
  have : (16 : Int32).toInt = 16 := by decide
  rw [this]
  omega
theorem stl_0 (e : ZQ5) : stl e 0 = 0 := by
  have := stl_le e (S := 0) (by decide)
  exact Nat.le_zero.mp (zle_le this)
theorem goodG_S (e : ZQ5) {S : Nat} (hS : S < 4096) : goodG e S S = true := by
  have z : zsd S S = 0 := (zsd_z hS).mpr (zle_rf S)
  unfold goodG
  rw [z, stl_0]
  rfl
theorem pX11_toGround {G : ZG} (d : Nat) {h : ZH} {S : Nat} {c e : ZQ5} {N : ZN} (j : JX h S c e N) : zC G (d + 6) mX11_toGround [zr 0 0] h (zJ S c e N (optV (bestN (goodG e S) 4096))) := by
  refine zC_of (by decide +kernel) (Nat.le_of_ble_eq_true rfl) (L := [zr 0 0]) ⟨rfl, trivial⟩ ?_
  refine wX11_toGround_0 ?_
  have main : zC G (d + 5) mX3_fewestToLevel [zr 1 0] h (zJ S c e N (optV (bestN (goodG e S) 4096))) := by
    refine zC_of (by decide +kernel) (Nat.le_of_ble_eq_true rfl) (L := [zr 1 0, zu, zu, zu]) ⟨rfl, trivial⟩ ?_
    refine wX3_fewestToLevel_0 ?_
    have key : ∀ (f i : Nat), f + i = 4096 → (∀ k, k < i → ¬ goodG e S (seqN k) = true) → ∀ (y : Int32) (h1 : ZH), (i ≤ 4095 → y = nI (seqN i)) → JX h1 S c e N → zT G (d + 5) mX3_fewestToLevel 4 [zr 1 0, zi y, zi (nI i), zu] [] h1 (zJ S c e N (optV (bestN (goodG e S) 4096))) := by
      intro f
      induction f with
      | zero =>
        intro i hi hn y h1 _ j1
        have ei : i = 4096 := by omega
        subst ei
        exfalso
        obtain ⟨k, hk, ek⟩ := seq_onto j.lt
        exact hn k (by omega) (by rw [ek]; exact goodG_S e j.lt)
      | succ f ih =>
        intro i hi hn y h1 hy j1
        have hi' : i ≤ 4095 := by omega
        have sl := seq_lt hi'
        rw [hy hi']
        refine wX3_fewestToLevel_4 ?_
        refine br_f (fun q => by have := (nI_4095 (show i ≤ 4096 by omega)).mp q; omega) ?_
        rw [j1.st6, zi_not sl, zn0 (zsd_lt sl), nI_1]
        have next : ∀ h2, JX h2 S c e N → ¬ goodG e S (seqN i) = true → zT G (d + 5) mX3_fewestToLevel 4 [zr 1 0, zi (nextI (nI (seqN i))), zi (nI (i + 1)), zu] [] h2 (zJ S c e N (optV (bestN (goodG e S) 4096))) := by
          intro h2 j2 g
          refine ih (i + 1) (by omega) (fun k hk => ?_) _ h2 (fun q => (seq_ok i (by omega)).2.2) j2
          by_cases z : k = i
          · rw [z]; exact g
          · exact hn k (by omega)
        refine ⟨fun a => next h1 j1 ?_, fun a => ?_⟩
        · unfold goodG
          intro g
          simp only [Bool.and_eq_true, decide_eq_true_eq] at g
          exact a g.1
        · rw [zi_not j.lt]
          refine zC_mono (jX3_leftOf d j1 (zsd_le j.lt)) ?_
          rintro r h2 ⟨rfl, j2, _⟩
          refine ⟨_, rfl, ?_⟩
          rw [n16 (stl_lt e (zsd_lt j.lt))]
          refine ⟨fun b => next h2 j2 ?_, fun b => ⟨?_, j2⟩⟩
          · unfold goodG
            intro g
            simp only [Bool.and_eq_true, decide_eq_true_eq] at g
            exact b g.2
          · have g : goodG e S (seqN i) = true := by
              unfold goodG
              simp only [Bool.and_eq_true, decide_eq_true_eq]
              exact ⟨a, b⟩
            rw [seq_best hi' g hn]
            rfl
    exact key 4096 0 (by omega) (fun k hk => absurd hk (Nat.not_lt_zero k)) 0 h (fun _ => rfl) j
  refine zC_mono main ?_
  rintro r h' ⟨rfl, j'⟩
  exact ⟨_, rfl, rfl, j'⟩
theorem pX12_toGround {G : ZG} (d : Nat) {h : ZH} {S : Nat} {c e : ZQ5} {N : ZN} (j : JX h S c e N) : zC G (d + 7) mX12_toGround [zr 5 0] h (zJ S c e N (optV (bestN (goodG e S) 4096))) := by
  refine zC_of (by decide +kernel) (Nat.le_of_ble_eq_true rfl) (L := [zr 5 0, zu, zu]) ⟨rfl, trivial⟩ ?_
  refine wX12_toGround_0 ?_
  have key : ∀ (f n : Nat), f + n = 4096 → ∀ (h1 : ZH), JX h1 S c e N → zT G (d + 7) mX12_toGround 5 [zr 5 0, zi (optV (bestN (goodG e S) n)), zi (nI n)] [] h1 (zJ S c e N (optV (bestN (goodG e S) 4096))) := by
    intro f
    induction f with
    | zero =>
      intro n hn h1 j1
      have e : n = 4096 := by omega
      subst e
      refine wX12_toGround_5 ?_
      exact br_t ((nI_4096 (Nat.le_refl _)).mpr rfl) ⟨rfl, j1⟩
    | succ f ih =>
      intro n hn h1 j1
      have hn' : n < 4096 := by omega
      have IH := ih (n + 1) (by omega)
      obtain ⟨b1, b2, b3⟩ := best_step (good := goodG e S) hn'
      refine wX12_toGround_5 ?_
      refine br_f (fun q => by have := (nI_4096 (show n ≤ 4096 by omega)).mp q; omega) ?_
      rw [j1.m0, zi_not hn', zn0 (zsd_lt hn'), nI_1]
      have no : ∀ h2, JX h2 S c e N → bestN (goodG e S) (n + 1) = bestN (goodG e S) n → zT G (d + 7) mX12_toGround 5 [zr 5 0, zi (optV (bestN (goodG e S) n)), zi (nI (n + 1))] [] h2 (zJ S c e N (optV (bestN (goodG e S) 4096))) := fun h2 j2 q => by
        have := IH h2 j2
        rw [q] at this
        exact this
      have yes : ∀ h2, JX h2 S c e N → bestN (goodG e S) (n + 1) = some n → zT G (d + 7) mX12_toGround 5 [zr 5 0, zi (nI n), zi (nI (n + 1))] [] h2 (zJ S c e N (optV (bestN (goodG e S) 4096))) := fun h2 j2 q => by
        have := IH h2 j2
        rw [q] at this
        exact this
      have gd : goodG e S n = true ↔ zsd n S = 0 ∧ stl e (zsd S n) < 16 := by
        unfold goodG
        simp
      refine ⟨fun a => no h1 j1 (b1 fun g => a (gd.mp g).1), fun a => ⟨fun o => ?_, fun o => ⟨fun l => ?_, fun l => ?_⟩⟩⟩
      · refine zC_mono (jX12_leftWithout d j1 j.lt) ?_
        rintro r h2 ⟨rfl, _, j2, _⟩
        refine ⟨_, rfl, ?_⟩
        rw [n16' (stl_lt e (zsd_lt j.lt))]
        exact ⟨fun t => no h2 j2 (b1 fun g => t (gd.mp g).2), fun t => yes h2 j2 (b2 (gd.mpr ⟨a, Classical.not_not.mp t⟩) o)⟩
      · refine zC_mono (jX12_leftWithout d j1 j.lt) ?_
        rintro r h2 ⟨rfl, _, j2, _⟩
        refine ⟨_, rfl, ?_⟩
        rw [n16' (stl_lt e (zsd_lt j.lt))]
        exact ⟨fun t => no h2 j2 (b1 fun g => t (gd.mp g).2), fun t => yes h2 j2 ((b3 (gd.mpr ⟨a, Classical.not_not.mp t⟩) o).1 l)⟩
      · by_cases g : goodG e S n = true
        · exact no h1 j1 ((b3 g o).2 l)
        · exact no h1 j1 (b1 g)
  exact key 4096 0 (by omega) h j
