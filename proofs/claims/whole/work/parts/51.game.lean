/-! ===== the model's table of longest runs and games; game, both sides ===== -/
def genF (g : Nat → Nat) (e : ZQ5) : Nat → Nat → Nat
  | 0, _ => 0
  | f + 1, T => maxN 0 (fun p => if safe1 e T p = true then g (genF g e f (zsd T (2 ^ p))) else 0) 12
theorem genF_s (g : Nat → Nat) (e : ZQ5) (f T : Nat) : genF g e (f + 1) T = maxN 0 (fun p => if safe1 e T p = true then g (genF g e f (zsd T (2 ^ p))) else 0) 12 := rfl
theorem genF_st (g : Nat → Nat) (e : ZQ5) : ∀ (f T : Nat), T < 4096 → zpc T < f → genF g e f T = genF g e (f + 1) T := by
  intro f
  induction f with
  | zero => intro T _ h; exact absurd h (Nat.not_lt_zero _)
  | succ f ih =>
    intro T hT h
    rw [genF_s, genF_s]
    refine maxN_cong fun p hp => ?_
    by_cases s : safe1 e T p = true
    · rw [if_pos s, if_pos s]
      have := zsd_pc hT (safe1_bit s).1
      rw [ih _ (zsd_lt hT) (by omega)]
    · rw [if_neg s, if_neg s]
theorem genF_long (e : ZQ5) : ∀ (f T : Nat), genF (fun v => 1 + v) e f T = longF e f T := by
  intro f
  induction f with
  | zero => intro T; rfl
  | succ f ih =>
    intro T
    rw [genF_s, longF_s]
    refine maxN_cong fun p _ => ?_
    unfold lngU
    by_cases s : safe1 e T p = true
    · rw [if_pos s, if_pos s]
      show 1 + genF (fun v => 1 + v) e f (zsd T (2 ^ p)) = _
      rw [ih]
    · rw [if_neg s, if_neg s]
def gen (g : Nat → Nat) (e : ZQ5) (T : Nat) : Nat := genF g e 13 T
def genU (g : Nat → Nat) (e : ZQ5) (T p : Nat) : Nat := if safe1 e T p = true then g (gen g e (zsd T (2 ^ p))) else 0
theorem gen_is (g : Nat → Nat) (e : ZQ5) {T : Nat} (hT : T < 4096) : gen g e T = maxN 0 (genU g e T) 12 := by
  have h := genF_st g e 13 T hT (by have := zpc_le T; omega)
  unfold gen
  rw [h, genF_s]
  rfl
theorem gen_long (e : ZQ5) (T : Nat) : gen (fun v => 1 + v) e T = lng e T := genF_long e 13 T
/-- what a step of the two tables is, as numbers and as ints -/
def gOk (e : ZQ5) (x : Int32) (g : Nat → Nat) : Prop := ∀ T, gen g e T ≤ 13 ∧ g (gen g e T) ≤ 14 ∧ ((x = 0 ∧ 1 + nI (gen g e T) = nI (g (gen g e T))) ∨ (x ≠ 0 ∧ 1 - nI (gen g e T) = nI (g (gen g e T))))
theorem gOk_long (e : ZQ5) : gOk e 0 (fun v => 1 + v) := by
  intro T
  have := lng_le e T
  rw [gen_long]
  refine ⟨this, by show 1 + lng e T ≤ 14; omega, Or.inl ⟨rfl, ?_⟩⟩
  rw [show (1 : Int32) = nI 1 from by decide, nI_add]
theorem game_le (e : ZQ5) : ∀ (f T : Nat), genF (fun v => 1 - v) e f T ≤ 1 := by
  intro f
  induction f with
  | zero => intro T; exact Nat.zero_le _
  | succ f ih =>
    intro T
    rw [genF_s]
    refine maxN_le (Nat.zero_le _) (fun p => ?_) 12
    split
    · show 1 - _ ≤ 1
      omega
    · exact Nat.zero_le _
theorem gOk_game (e : ZQ5) : gOk e 1 (fun v => 1 - v) := by
  intro T
  have : gen (fun v => 1 - v) e T ≤ 1 := game_le e 13 T
  refine ⟨by omega, by show 1 - gen (fun v => 1 - v) e T ≤ 14; omega, Or.inr ⟨by decide, ?_⟩⟩
  rw [show (1 : Int32) = nI 1 from by decide, nI_sub this]
def kOk (e : ZQ5) (S T : Nat) : Bool := decide (zsd T S = 0) && decide (stl e T = T)
def kv (g : Nat → Nat) (e : ZQ5) (S T : Nat) : Nat := if kOk e S T = true then gen g e T else 0
def KI (g : Nat → Nat) (e : ZQ5) (S : Nat) (h : ZH) (n : Nat) : Prop := ∀ T, T < n → h.1 35 0 T = nI (kv g e S T)
theorem KI.S {g : Nat → Nat} {e : ZQ5} {S n : Nat} {h h' : ZH} (k : KI g e S h n) (a : zfx eS h h') : KI g e S h' n := fun T hT => by
  rw [(a 35 0 T (eS_no (by decide) (by decide))).1]
  exact k T hT
def eK (k _j : Nat) : Bool := decide (k = 35)
theorem eA_K {k j : Nat} (h : eA k j = false) : eK k j = false := by
  unfold eA at h
  unfold eK
  simp only [Bool.or_eq_false_iff, decide_eq_false_iff_not] at h ⊢
  omega
theorem JX.fK {h h' : ZH} {S : Nat} {c e : ZQ5} {N : ZN} (j : JX h S c e N) (a : zfx eK h h') : JX h' S c e N := j.fm a (fun _ _ => eA_K) (fun _ => by unfold eK; simp) (fun _ => by unfold eK; simp)
theorem zsd_lt_p {T p : Nat} (hT : T < 4096) (h : T.testBit p = true) : zsd T (2 ^ p) < T := by
  have l := zle_le (zsd_le (T := 2 ^ p) hT)
  have : zsd T (2 ^ p) ≠ T := by
    intro q
    have := zsd_pc hT h
    rw [q] at this
    omega
  omega
theorem falls_le0 {e : ZQ5} {T p : Nat} (hT : T < 4096) : nI (fallN e T (2 ^ p)) ≤ 0 ↔ stl e (zsd T (2 ^ p)) = zsd T (2 ^ p) := by
  rw [← fallN_0 hT]
  have : ∀ v, v ≤ 12 → (nI v ≤ 0 ↔ v = 0) := by decide
  exact this _ (fallN_lt e T (2 ^ p))
set_option maxHeartbeats 2000000 in
theorem jX12_finds {G : ZG} (d : Nat) {h : ZH} {S : Nat} {c e : ZQ5} {N : ZN} {x : Int32} {g : Nat → Nat} (hg : gOk e x g) (j : JX h S c e N) : zC G (d + 8) mX12_finds [zr 5 0, zi x] h (fun r h' => r = none ∧ JX h' S c e N ∧ KI g e S h' 4096) := by
  refine zC_of (by decide +kernel) (Nat.le_of_ble_eq_true rfl) (L := [zr 5 0, zi x, zu, zu, zu]) ⟨rfl, ⟨rfl, trivial⟩⟩ ?_
  refine wX12_finds_0 ?_
  have key : ∀ (f n : Nat) (h1 : ZH), f + n = 4096 → JX h1 S c e N → KI g e S h1 n → zT G (d + 8) mX12_finds 2 [zr 5 0, zi x, zi (nI n), zu, zu] [] h1 (fun r h' => r = none ∧ JX h' S c e N ∧ KI g e S h' 4096) := by
    intro f
    induction f with
    | zero =>
      intro n h1 hn j1 k1
      have en : n = 4096 := by omega
      subst en
      refine wX12_finds_2 ?_
      exact br_t ((nI_4096 (Nat.le_refl _)).mpr rfl) ⟨rfl, j1, k1⟩
    | succ f ih =>
      intro n h1 hn j1 k1
      have hn' : n < 4096 := by omega
      have vn : vp_in (nI n) 4096 := vpn hn' (by decide)
      have cn : (nI n).toNatClampNeg = n := nI_cl (by omega)
      refine wX12_finds_2 ?_
      refine br_f (fun q => by have := (nI_4096 (show n ≤ 4096 by omega)).mp q; omega) ⟨vn, ?_⟩
      rw [cn]
      intro h2 e2
      have f2 : zfx eK h1 h2 := by rw [e2]; exact zfx.s1 eK h1 _ rfl
      have j2 := j1.fK f2
      have k2 : KI g e S h2 n := fun T hT => by
        rw [e2, zs1_at, if_neg (fun q => by omega)]
        exact k1 T hT
      have z2 : h2.1 35 0 n = 0 := by rw [e2, zs1_at, if_pos ⟨rfl, rfl, rfl⟩]
      rw [j2.m0, zi_not hn', zn0 (zsd_lt hn'), nI_1]
      have skip : ∀ h3, JX h3 S c e N → KI g e S h3 n → h3.1 35 0 n = 0 → ¬ kOk e S n = true → zT G (d + 8) mX12_finds 2 [zr 5 0, zi x, zi (nI (n + 1)), zu, zu] [] h3 (fun r h' => r = none ∧ JX h' S c e N ∧ KI g e S h' 4096) := by
        intro h3 j3 k3 z3 q
        refine ih (n + 1) h3 (by omega) j3 (fun T hT => ?_)
        by_cases z : T = n
        · rw [z, z3]
          unfold kv
          rw [if_neg q]
          rfl
        · exact k3 T (by omega)
      refine ⟨fun a => skip h2 j2 k2 z2 (by unfold kOk; simp [a]), fun a => ?_⟩
      refine zC_mono (jX12_settled (d + 2) j2 hn') ?_
      rintro r h3 ⟨rfl, _, j3, f3⟩
      refine ⟨_, rfl, ?_⟩
      have k3 := k2.S f3
      have z3 : h3.1 35 0 n = 0 := by rw [(f3 35 0 n (eS_no (by decide) (by decide))).1]; exact z2
      rw [zi_inj (stl_lt e hn') hn']
      refine ⟨fun b => ?_, fun b => skip h3 j3 k3 z3 (by unfold kOk; simp [b])⟩
      have hok : kOk e S n = true := by unfold kOk; simp [a, b]
      have hle : zle n S := (zsd_z hn').mp a
      have inner : ∀ (f' m : Nat) (h4 : ZH), f' + m = 12 → JX h4 S c e N → KI g e S h4 n → h4.1 35 0 n = nI (maxN 0 (genU g e n) m) → zT G (d + 8) mX12_finds 43 [zr 5 0, zi x, zi (nI n), zi (nI m), zu] [] h4 (fun r h' => r = none ∧ JX h' S c e N ∧ KI g e S h' 4096) := by
        intro f'
        induction f' with
        | zero =>
          intro m h4 hm j4 k4 v4
          have em : m = 12 := by omega
          subst em
          refine wX12_finds_43 ?_
          refine br_t (by decide) ?_
          rw [nI_1]
          refine ih (n + 1) h4 (by omega) j4 (fun T hT => ?_)
          by_cases z : T = n
          · rw [z, v4]
            unfold kv
            rw [if_pos hok, gen_is g e hn']
          · exact k4 T (by omega)
        | succ f' ih2 =>
          intro m h4 hm j4 k4 v4
          have hm' : m < 12 := by omega
          refine wX12_finds_43 ?_
          refine br_f (nI_ge (a := m) (b := 12) (by omega) (by decide)) ?_
          rw [hasI_iff hn' (show m < 32 by omega), zi_sh hm', zi_not hn', nI_1]
          have no : ∀ h5, JX h5 S c e N → KI g e S h5 n → h5.1 35 0 n = nI (maxN 0 (genU g e n) m) → ¬ safe1 e n m = true → zT G (d + 8) mX12_finds 43 [zr 5 0, zi x, zi (nI n), zi (nI (m + 1)), zu] [] h5 (fun r h' => r = none ∧ JX h' S c e N ∧ KI g e S h' 4096) := by
            intro h5 j5 k5 v5 q
            refine ih2 (m + 1) h5 (by omega) j5 k5 ?_
            rw [maxN, show genU g e n m = 0 from if_neg q, Nat.max_eq_left (Nat.zero_le _)]
            exact v5
          refine ⟨fun t => no h4 j4 k4 v4 (by unfold safe1; simp [t]), fun t => ?_⟩
          refine zC_mono (jX12_fallsOf d j4 hn') ?_
          rintro r h5 ⟨rfl, j5, f5⟩
          refine ⟨_, rfl, ?_⟩
          have k5 := k4.S f5
          have v5 : h5.1 35 0 n = nI (maxN 0 (genU g e n) m) := by rw [(f5 35 0 n (eS_no (by decide) (by decide))).1]; exact v4
          rw [falls_le0 hn']
          refine ⟨fun s => ?_, fun s => no h5 j5 k5 v5 (by unfold safe1; simp [s])⟩
          have sf : safe1 e n m = true := by unfold safe1; simp [t, s]
          have lt := zsd_lt_p hn' t
          have lt4 : zsd n (2 ^ m) < 4096 := by omega
          refine ⟨vpn lt4 (by decide), ?_⟩
          intro y ey
          have kz : kOk e S (zsd n (2 ^ m)) = true := by
            unfold kOk
            simp only [Bool.and_eq_true, decide_eq_true_eq]
            exact ⟨(zsd_z lt4).mpr (zle_sd hn' hle), s⟩
          rw [nI_cl (show zsd n (2 ^ m) ≤ 4096 by omega), k5 _ lt] at ey
          unfold kv at ey
          rw [if_pos kz] at ey
          obtain ⟨g1, g2, g3⟩ := hg (zsd n (2 ^ m))
          have gu : genU g e n m = g (gen g e (zsd n (2 ^ m))) := if_pos sf
          have gp : ∀ p, genU g e n p ≤ 14 := by
            intro p
            unfold genU
            split
            · exact (hg _).2.1
            · exact Nat.zero_le _
          have gl : maxN 0 (genU g e n) m ≤ 14 := maxN_le (Nat.zero_le _) gp m
          have fin : ∀ h6 : ZH, h6 = zs1 h5 35 0 n (zmax (nI (maxN 0 (genU g e n) m)) (nI (g (gen g e (zsd n (2 ^ m)))))) → zT G (d + 8) mX12_finds 43 [zr 5 0, zi x, zi (nI n), zi (nI (m + 1)), zu] [] h6 (fun r h' => r = none ∧ JX h' S c e N ∧ KI g e S h' 4096) := by
            intro h6 e6
            refine ih2 (m + 1) h6 (by omega) (by rw [e6]; exact j5.fK (zfx.s1 eK h5 _ rfl)) (fun T hT => ?_) ?_
            · rw [e6, zs1_at, if_neg (fun q => by omega)]
              exact k5 T hT
            · rw [e6, zs1_at, if_pos ⟨rfl, rfl, rfl⟩, zmax_n (by omega) (by omega), maxN, gu]
          rw [cn, v5, ey]
          refine ⟨vn, ?_⟩
          rcases g3 with ⟨x0, q⟩ | ⟨x0, q⟩
          · refine br_t x0 ⟨vn, ?_⟩
            rw [q]
            exact fin
          · refine br_f x0 ⟨vn, ?_⟩
            rw [q]
            exact fin
      exact inner 12 0 h3 (by omega) j3 k3 z3
  exact key 4096 0 h (by omega) j (fun T hT => absurd hT (Nat.not_lt_zero T))
/-- the first with which what the table says is done -/
def gfst (g : Nat → Nat) (e : ZQ5) (S : Nat) : Nat → Nat → Int32
  | 0, _ => -4
  | f + 1, p => if safe1 e S p = true ∧ gen g e S = g (gen g e (zsd S (2 ^ p))) then nI p else gfst g e S f (p + 1)
theorem jX12_firstTo {G : ZG} (d : Nat) {h : ZH} {S : Nat} {c e : ZQ5} {N : ZN} {x : Int32} {g : Nat → Nat} (hg : gOk e x g) (j : JX h S c e N) (hk : KI g e S h 4096) : zC G (d + 8) mX12_firstTo [zr 5 0, zi x] h (zJ S c e N (if gen g e S = 0 then -4 else gfst g e S 12 0)) := by
  refine zC_of (by decide +kernel) (Nat.le_of_ble_eq_true rfl) (L := [zr 5 0, zi x, zu, zu, zu]) ⟨rfl, ⟨rfl, trivial⟩⟩ ?_
  refine wX12_firstTo_0 ?_
  have hS := j.lt
  have kS : kv g e S S = gen g e S := by
    unfold kv
    rw [if_pos]
    unfold kOk
    simp only [Bool.and_eq_true, decide_eq_true_eq]
    exact ⟨(zsd_z hS).mpr (zle_rf S), j.setl⟩
  rw [j.m0, nI_cl (show S ≤ 4096 by omega), hk S hS, kS]
  refine ⟨vpn hS (by decide), ?_⟩
  have gS := (hg S).1
  have le0 : nI (gen g e S) ≤ 0 ↔ gen g e S = 0 := n_le0 (by omega)
  have key : ∀ (f m : Nat) (h1 : ZH), f + m = 12 → JX h1 S c e N → KI g e S h1 4096 → gfst g e S f m = gfst g e S 12 0 → zT G (d + 8) mX12_firstTo 14 [zr 5 0, zi x, zi (nI (gen g e S)), zi (nI m), zu] [] h1 (zJ S c e N (if gen g e S = 0 then -4 else gfst g e S 12 0)) := by
    intro f
    induction f with
    | zero =>
      intro m h1 hm j1 k1 ho
      have em : m = 12 := by omega
      subst em
      refine wX12_firstTo_14 ?_
      refine br_t (by decide) ⟨?_, j1⟩
      rw [← ho]
      by_cases z : gen g e S = 0
      · rw [if_pos z]
      · rw [if_neg z]; rfl
    | succ f ih =>
      intro m h1 hm j1 k1 ho
      have hm' : m < 12 := by omega
      refine wX12_firstTo_14 ?_
      refine br_f (nI_ge (a := m) (b := 12) (by omega) (by decide)) ?_
      rw [le0, j1.m0, hasI_iff hS (show m < 32 by omega), zi_sh hm', nI_1]
      rw [gfst] at ho
      refine ⟨fun z => ⟨by rw [if_pos z], j1⟩, fun z => ?_⟩
      have no : ∀ h2, JX h2 S c e N → KI g e S h2 4096 → ¬ (safe1 e S m = true ∧ gen g e S = g (gen g e (zsd S (2 ^ m)))) → zT G (d + 8) mX12_firstTo 14 [zr 5 0, zi x, zi (nI (gen g e S)), zi (nI (m + 1)), zu] [] h2 (zJ S c e N (if gen g e S = 0 then -4 else gfst g e S 12 0)) := by
        intro h2 j2 k2 q
        rw [if_neg q] at ho
        exact ih (m + 1) h2 (by omega) j2 k2 ho
      refine ⟨fun t => no h1 j1 k1 (fun q => t (safe1_bit q.1).1), fun t => ?_⟩
      refine zC_mono (jX12_fallsOf d j1 hS) ?_
      rintro r h2 ⟨rfl, j2, f2⟩
      refine ⟨_, rfl, ?_⟩
      have k2 := k1.S f2
      rw [falls_le0 hS]
      refine ⟨fun s => ?_, fun s => no h2 j2 k2 (fun q => s (safe1_bit q.1).2)⟩
      have sf : safe1 e S m = true := by unfold safe1; simp [t, s]
      have lt4 : zsd S (2 ^ m) < 4096 := zsd_lt hS
      rw [j2.m0, zi_not hS]
      refine ⟨vpn lt4 (by decide), ?_⟩
      intro y ey
      have kz : kOk e S (zsd S (2 ^ m)) = true := by
        unfold kOk
        simp only [Bool.and_eq_true, decide_eq_true_eq]
        exact ⟨(zsd_z lt4).mpr (zsd_le hS), s⟩
      rw [nI_cl (show zsd S (2 ^ m) ≤ 4096 by omega), k2 _ lt4] at ey
      unfold kv at ey
      rw [if_pos kz] at ey
      obtain ⟨g1, g2, g3⟩ := hg (zsd S (2 ^ m))
      rw [ey]
      have yes : gen g e S = g (gen g e (zsd S (2 ^ m))) → (zJ S c e N (if gen g e S = 0 then -4 else gfst g e S 12 0)) (some (zi (nI m))) h2 := by
        intro q
        refine ⟨?_, j2⟩
        rw [if_neg z, ← ho, if_pos ⟨sf, q⟩]
      have cmp : nI (gen g e S) = nI (g (gen g e (zsd S (2 ^ m)))) ↔ gen g e S = g (gen g e (zsd S (2 ^ m))) := zi_inj (by omega) (by omega)
      rcases g3 with ⟨x0, q⟩ | ⟨x0, q⟩
      · refine br_t x0 ?_
        rw [q, cmp]
        exact ⟨fun w => no h2 j2 k2 (fun k => w k.2), yes⟩
      · refine br_f x0 ?_
        rw [q, cmp]
        exact ⟨fun w => no h2 j2 k2 (fun k => w k.2), yes⟩
  exact key 12 0 h (by omega) j hk rfl
theorem gfst_long (e : ZQ5) (S : Nat) : ∀ f p, gfst (fun v => 1 + v) e S f p = lfst e S f p := by
  intro f
  induction f with
  | zero => intro p; rfl
  | succ f ih =>
    intro p
    rw [gfst, lfst, gen_long, gen_long, ih]
    by_cases z : safe1 e S p = true ∧ 1 + lng e (zsd S (2 ^ p)) = lng e S
    · rw [if_pos z, if_pos ⟨z.1, z.2.symm⟩]
    · rw [if_neg z, if_neg (fun q => z ⟨q.1, q.2.symm⟩)]
theorem lfst_0 (e : ZQ5) {S : Nat} (h : lng e S = 0) : ∀ f p, lfst e S f p = -4 := by
  intro f
  induction f with
  | zero => intro p; rfl
  | succ f ih =>
    intro p
    rw [lfst, if_neg (fun q => by omega), ih]
theorem pX12_longest {G : ZG} (d : Nat) {h : ZH} {S : Nat} {c e : ZQ5} {N : ZN} (j : JX h S c e N) (w : Int32) : zC G (d + 9) mX12_longest [zr 5 0, zi w] h (zJ S c e N (longV e S w)) := by
  refine zC_of (by decide +kernel) (Nat.le_of_ble_eq_true rfl) (L := [zr 5 0, zi w]) ⟨rfl, ⟨rfl, trivial⟩⟩ ?_
  refine wX12_longest_0 ?_
  unfold longV
  have hS := j.lt
  refine ⟨fun a => ?_, fun a => ⟨by rw [if_neg a], j⟩⟩
  rw [if_pos a]
  refine zC_mono (jX12_finds d (gOk_long e) j) ?_
  rintro r h1 ⟨rfl, j1, k1⟩
  refine ⟨rfl, fun z => ?_, fun z => ?_⟩
  · refine zC_mono (jX12_firstTo d (gOk_long e) j1 k1) ?_
    rintro r h2 ⟨rfl, j2⟩
    refine ⟨_, rfl, ?_, j2⟩
    rw [if_neg z, gfst_long, gen_long]
    by_cases y : lng e S = 0
    · rw [if_pos y, lfst_0 e y]
    · rw [if_neg y]
  · have kS : kv (fun v => 1 + v) e S S = gen (fun v => 1 + v) e S := by
      unfold kv
      rw [if_pos]
      unfold kOk
      simp only [Bool.and_eq_true, decide_eq_true_eq]
      exact ⟨(zsd_z hS).mpr (zle_rf S), j.setl⟩
    rw [j1.m0, nI_cl (show S ≤ 4096 by omega), k1 S hS, kS, gen_long, if_pos z]
    exact ⟨vpn hS (by decide), rfl, j1⟩
