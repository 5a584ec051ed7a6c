/-! ===== bombs, both sides ===== -/
def zJl (S : Nat) (c e : ZQ5) (N : ZN) (v : Int64) (r : Option ZV) (h' : ZH) : Prop := r = some (zl v) ∧ JX h' S c e N
def bombP (e : ZQ5) (S k t : Nat) (w : Int32) : Int64 := if w = 0 then lN (bmA e S k (t - 1) / Nat.gcd (bmA e S k (t - 1)) (t ^ zpc S)) else lN (t ^ zpc S / Nat.gcd (bmA e S k (t - 1)) (t ^ zpc S))
def bombV (e : ZQ5) (S : Nat) (x k w : Int32) : Int64 := if (2 ≤ x ∧ x ≤ 10) ∧ ((0 ≤ k ∧ k ≤ 12) ∧ (0 ≤ w ∧ w ≤ 1)) then bombP e S k.toNatClampNeg x.toNatClampNeg w else 1000000001
theorem lg_1 {g : Nat} (hg : g < 2 ^ 62) (h1 : 1 ≤ g) : 0 ≤ lg_cmp (lN g) 1 := by
  unfold lg_cmp
  have e1 : (1 : Int64).toInt = 1 := by decide
  by_cases q : lN g > 1
  · rw [if_pos q]; decide
  · rw [if_neg q]
    have q' : ¬ (1 : Int64) < lN g := q
    rw [fa_lt64, pk_lT (by omega), e1] at q'
    have : lN g = 1 := by rw [fa_eq64, pk_lT (by omega), e1]; omega
    rw [if_pos this]
    decide
theorem zin10 {x : Int32} (h : 2 ≤ x ∧ x ≤ 10) : ∃ n : Nat, 2 ≤ n ∧ n ≤ 10 ∧ x = nI n := by
  obtain ⟨h1, h2⟩ := h
  obtain ⟨j, hj, e⟩ := nI_of2 (x := x) (M := 10) (n := 10) (by decide) (by
    intro q
    rw [fa_lt] at q
    rw [fa_le] at h1
    have e1 : (2 : Int32).toInt = 2 := by decide
    have e0 : (0 : Int32).toInt = 0 := by decide
    omega) h2
  refine ⟨j, ?_, hj, e⟩
  rw [e, show (2 : Int32) = nI 2 from by decide, nI_leb (by omega) (by omega)] at h1
  exact h1
theorem zin0_12 {x : Int32} (h : 0 ≤ x ∧ x ≤ 12) : ∃ n : Nat, n ≤ 12 ∧ x = nI n := by
  obtain ⟨h1, h2⟩ := h
  obtain ⟨j, hj, e⟩ := nI_of2 (x := x) (M := 12) (n := 12) (by decide) (by
    intro q
    rw [fa_lt] at q
    rw [fa_le] at h1
    have e0 : (0 : Int32).toInt = 0 := by decide
    omega) h2
  exact ⟨j, hj, e⟩
theorem tpow {t : Nat} (ht : 2 ≤ t) (ht2 : t ≤ 10) (S : Nat) : 1 ≤ t ^ zpc S ∧ t ^ zpc S < 2 ^ 62 := by
  have a := Nat.one_le_pow (zpc S) t (by omega)
  have b : t ^ zpc S ≤ 10 ^ 12 := Nat.le_trans (Nat.pow_le_pow_left ht2 _) (Nat.pow_le_pow_right (by decide) (zpc_le S))
  have c : (10 : Nat) ^ 12 < 2 ^ 62 := by decide
  exact ⟨a, by omega⟩
theorem gcd_ok {A B : Nat} (hB : 1 ≤ B) (hB2 : B < 2 ^ 62) : 1 ≤ Nat.gcd A B ∧ Nat.gcd A B < 2 ^ 62 := by
  have := Nat.gcd_pos_of_pos_right A (show 0 < B by omega)
  have := Nat.gcd_le_right A (show 0 < B by omega)
  omega
theorem lN_ne0 {g : Nat} (h1 : 1 ≤ g) (h2 : g < 2 ^ 62) : ¬ lN g = (0 : Int64) := by
  intro q
  have : lN g = lN 0 := q
  rw [pk_lEQ (by omega) (by decide)] at this
  omega
set_option maxHeartbeats 1000000 in
theorem pX11_bombs {G : ZG} (d : Nat) {h : ZH} {S : Nat} {c e : ZQ5} {N : ZN} (j : JX h S c e N) (x k w : Int32) : zC G (d + 6) mX11_bombs [zr 0 0, zi x, zi k, zi w] h (zJl S c e N (bombV e S x k w)) := by
  refine zC_of (by decide +kernel) (Nat.le_of_ble_eq_true rfl) (L := [zr 0 0, zi x, zi k, zi w, zu, zu, zu, zu, zu, zu, zu]) ⟨rfl, ⟨rfl, ⟨rfl, ⟨rfl, trivial⟩⟩⟩⟩ ?_
  refine wX11_bombs_0 ?_
  have bad : ¬ ((2 ≤ x ∧ x ≤ 10) ∧ ((0 ≤ k ∧ k ≤ 12) ∧ (0 ≤ w ∧ w ≤ 1))) → zJl S c e N (bombV e S x k w) (some (zl 1000000001)) h := fun q => ⟨by unfold bombV; rw [if_neg q], j⟩
  refine ⟨fun a => bad fun q => (fa_of_lt a).2.1 q.1.1, fun a => ⟨fun b => bad fun q => (fa_of_lt b).2.1 q.1.2, fun b => ⟨fun a2 => bad fun q => (fa_of_lt a2).2.1 q.2.1.1, fun a2 => ⟨fun b2 => bad fun q => (fa_of_lt b2).2.1 q.2.1.2, fun b2 => ⟨fun b3 => bad fun q => b3 q.2.2, fun b3 => ?_⟩⟩⟩⟩⟩
  have r1 : 2 ≤ x ∧ x ≤ 10 := ⟨fa_of_nlt a, fa_of_nlt b⟩
  have r2 : 0 ≤ k ∧ k ≤ 12 := ⟨fa_of_nlt a2, fa_of_nlt b2⟩
  have hV : bombV e S x k w = bombP e S k.toNatClampNeg x.toNatClampNeg w := by unfold bombV; rw [if_pos ⟨r1, r2, b3⟩]
  rw [hV]
  obtain ⟨t, ht, ht2, rfl⟩ := zin10 r1
  obtain ⟨kk, hk, rfl⟩ := zin0_12 r2
  rw [nI_cl (show t ≤ 4096 by omega), nI_cl (show kk ≤ 4096 by omega)]
  have hS := j.lt
  have pS := zpc_le S
  obtain ⟨tp1, tp2⟩ := tpow ht ht2 S
  have A62 : bmA e S kk (t - 1) < 2 ^ 62 := bm_lt (by omega) (by omega) 4096 (Nat.le_refl _)
  obtain ⟨g1, g2⟩ := gcd_ok (A := bmA e S kk (t - 1)) tp1 tp2
  refine zC_mono (jX3_bombed d j hk ht ht2) ?_
  rintro r h1 ⟨rfl, j1⟩
  refine ⟨_, rfl, ?_⟩
  rw [j1.st6, bcI_nI hS]
  refine zC_mono (sX11_powerOf (d + 4) (show zpc S ≤ 4096 by omega)) ?_
  rintro r h2 ⟨rfl, rfl⟩
  refine ⟨_, rfl, ?_⟩
  rw [nI_l (show t < 2 ^ 31 by omega), pwL_n]
  refine zC_mono (sX11_commonDivisor (d + 4) A62 tp2) ?_
  rintro r h3 ⟨rfl, rfl⟩
  refine ⟨_, rfl, ?_⟩
  refine br_t (lg_1 g2 g1) ?_
  unfold bombP
  refine ⟨fun z => ⟨lN_ne0 g1 g2, ?_, j1⟩, fun z => ⟨lN_ne0 g1 g2, ?_, j1⟩⟩
  · rw [if_neg z, pk_lDiv (by omega) (by omega) (by omega)]
  · rw [if_pos z, pk_lDiv (by omega) (by omega) (by omega)]
theorem jX12_partOf {G : ZG} (d : Nat) {h : ZH} {A B : Nat} {w : Int32} (hA : A < 2 ^ 62) (hB : 1 ≤ B) (hB2 : B < 2 ^ 62) (hw : w = 0 ∨ w = 1) : zC G (d + 2) mX12_partOf [zl (lN A), zl (lN B), zi w] h (fun r h' => r = some (zl (if w = 0 then lN (A / Nat.gcd A B) else lN (B / Nat.gcd A B))) ∧ h' = h) := by
  refine zC_of (by decide +kernel) (Nat.le_of_ble_eq_true rfl) (L := [zl (lN A), zu, zl (lN B), zu, zi w]) ⟨rfl, ⟨rfl, ⟨rfl, trivial⟩⟩⟩ ?_
  refine wX12_partOf_0 ?_
  obtain ⟨g1, g2⟩ := gcd_ok (A := A) hB hB2
  rw [lg_0 hA]
  refine ⟨fun z => ⟨fun y => ?_, fun y => ?_⟩, fun z => ⟨?_, rfl⟩⟩
  · refine zC_mono (sX12_gcd d hA hB2) ?_
    rintro r h1 ⟨rfl, rfl⟩
    refine ⟨_, rfl, lN_ne0 g1 g2, ?_, rfl⟩
    rw [if_neg y, pk_lDiv (by omega) (by omega) (by omega)]
  · refine zC_mono (sX12_gcd d hA hB2) ?_
    rintro r h1 ⟨rfl, rfl⟩
    refine ⟨_, rfl, lN_ne0 g1 g2, ?_, rfl⟩
    rw [if_pos y, pk_lDiv (by omega) (by omega) (by omega)]
  · subst z
    rcases hw with rfl | rfl
    · rw [if_pos rfl, Nat.zero_div]; rfl
    · rw [if_neg (by decide), Nat.gcd_zero_left, Nat.div_self (by omega)]; rfl
/-- the ways of one choice of what is taken -/
def bmT (e : ZQ5) (S k b T : Nat) : Nat := if zsd T S = 0 ∧ k ≤ zpc (stl e (zsd S T)) then b ^ (zpc S - zpc T) else 0
theorem bm_eq {e : ZQ5} {S k b : Nat} (hS : S < 4096) : sumN (bmT e S k b) 4096 = bmA e S k b := by
  have x := sumN_xor (bmU e S k b) 12 S hS
  have e4 : (2 : Nat) ^ 12 = 4096 := by decide
  rw [e4] at x
  unfold bmA
  rw [← x]
  refine sumN_cong fun T hT => ?_
  unfold bmT bmU
  have hx : T ^^^ S < 4096 := zxor_lt hT hS
  have iff0 : zsd T S = 0 ↔ zsd (T ^^^ S) S = 0 := by
    rw [zsd_z hT, zsd_z hx]
    constructor
    · intro h p hp
      rw [Nat.testBit_xor] at hp
      by_cases q : S.testBit p = true
      · exact q
      · rw [eq_false_of_ne_true q, Bool.xor_false] at hp
        exact h p hp
    · intro h p hp
      by_cases q : S.testBit p = true
      · exact q
      · exact h p (by rw [Nat.testBit_xor, hp, eq_false_of_ne_true q]; rfl)
  by_cases z : zsd T S = 0
  · have hle := (zsd_z hT).mp z
    have ex : T ^^^ S = zsd S T := by
      refine zs_ext hx (zsd_lt hS) fun p hp => ?_
      rw [Nat.testBit_xor, zsd_bit hS]
      by_cases q : T.testBit p = true
      · rw [q, hle p q]; rfl
      · rw [eq_false_of_ne_true q]; simp
    have pc := zpc_sub hle hS
    have z' := iff0.mp z
    rw [ex] at z' ⊢
    have : zpc S - zpc T = zpc (zsd S T) := by omega
    rw [this]
    by_cases q : k ≤ zpc (stl e (zsd S T))
    · rw [if_pos ⟨z, q⟩, if_pos ⟨z', q⟩]
    · rw [if_neg (fun w => q w.2), if_neg (fun w => q w.2)]
  · rw [if_neg (fun w => z w.1), if_neg (fun w => z (iff0.mpr w.1))]
set_option maxHeartbeats 1000000 in
theorem pX12_bombs {G : ZG} (d : Nat) {h : ZH} {S : Nat} {c e : ZQ5} {N : ZN} (j : JX h S c e N) (x k w : Int32) : zC G (d + 7) mX12_bombs [zr 5 0, zi x, zi k, zi w] h (zJl S c e N (bombV e S x k w)) := by
  refine zC_of (by decide +kernel) (Nat.le_of_ble_eq_true rfl) (L := [zr 5 0, zi x, zi k, zi w, zu, zu, zu, zu, zu, zu, zu, zu]) ⟨rfl, ⟨rfl, ⟨rfl, ⟨rfl, trivial⟩⟩⟩⟩ ?_
  refine wX12_bombs_0 ?_
  have bad : ¬ ((2 ≤ x ∧ x ≤ 10) ∧ ((0 ≤ k ∧ k ≤ 12) ∧ (0 ≤ w ∧ w ≤ 1))) → zJl S c e N (bombV e S x k w) (some (zl 1000000001)) h := fun q => ⟨by unfold bombV; rw [if_neg q], j⟩
  refine ⟨fun r1 => bad fun q => r1 q.1, fun r1 => ⟨fun r2 => bad fun q => r2 q.2.1, fun r2 => ⟨fun b3 => ?_, fun b3 => bad fun q => b3 q.2.2⟩⟩⟩
  have hV : bombV e S x k w = bombP e S k.toNatClampNeg x.toNatClampNeg w := by unfold bombV; rw [if_pos ⟨r1, r2, b3⟩]
  rw [hV]
  obtain ⟨t, ht, ht2, rfl⟩ := zin10 r1
  obtain ⟨kk, hk, rfl⟩ := zin0_12 r2
  rw [nI_cl (show t ≤ 4096 by omega), nI_cl (show kk ≤ 4096 by omega)]
  have hS := j.lt
  have pS := zpc_le S
  obtain ⟨tp1, tp2⟩ := tpow ht ht2 S
  have A62 : bmA e S kk (t - 1) < 2 ^ 62 := bm_lt (by omega) (by omega) 4096 (Nat.le_refl _)
  have tb : (nI t - 1).toInt64 = lN (t - 1) := by
    rw [show (1 : Int32) = nI 1 from by decide, nI_sub (by omega), nI_l (by omega)]
  have key2 : ∀ (f n : Nat) (h1 : ZH), f + n = 4096 → JX h1 S c e N → zT G (d + 7) mX12_bombs 72 [zr 5 0, zi (nI t), zi (nI kk), zi w, zl (lN (sumN (bmT e S kk (t - 1)) n)), zu, zl (lN (t ^ zpc S)), zu, zi (nI n), zu, zu, zu] [] h1 (zJl S c e N (bombP e S kk t w)) := by
    intro f
    induction f with
    | zero =>
      intro n h1 hn j1
      have en : n = 4096 := by omega
      subst en
      refine wX12_bombs_72 ?_
      refine br_t ((nI_4096 (Nat.le_refl _)).mpr rfl) ?_
      rw [bm_eq hS]
      refine zC_mono (jX12_partOf (d + 4) A62 tp1 tp2 (n01 b3)) ?_
      rintro r h2 ⟨rfl, rfl⟩
      exact ⟨_, rfl, rfl, j1⟩
    | succ f ih =>
      intro n h1 hn j1
      have hn' : n < 4096 := by omega
      have IH := ih (n + 1)
      rw [sumN] at IH
      refine wX12_bombs_72 ?_
      refine br_f (fun q => by have := (nI_4096 (show n ≤ 4096 by omega)).mp q; omega) ?_
      rw [j1.m0, zi_not hn', zn0 (zsd_lt hn'), nI_1, bitsI_nI hn']
      refine ⟨fun a => ?_, fun a => ?_⟩
      · have := IH h1 (by omega) j1
        rw [show bmT e S kk (t - 1) n = 0 from if_neg (fun z => a z.1), Nat.add_zero] at this
        exact this
      · have hle : zle n S := (zsd_z hn').mp a
        have pn := zpc_mono hle
        refine zC_mono (jX12_leftWithout d j1 hS) ?_
        rintro r h2 ⟨rfl, _, j2, _⟩
        refine ⟨_, rfl, ?_⟩
        have pl := zpc_le (stl e (zsd S n))
        rw [bitsI_nI (stl_lt e (zsd_lt hS)), nI_leb (by omega) (by omega)]
        refine ⟨fun q => ?_, fun q => ?_⟩
        · have nx := IH
          rw [show bmT e S kk (t - 1) n = (t - 1) ^ (zpc S - zpc n) from if_pos ⟨a, q⟩] at nx
          have inner : ∀ (g m i : Nat), g + m = zpc S → m = zpc n + i → zT G (d + 7) mX12_bombs 126 [zr 5 0, zi (nI t), zi (nI kk), zi w, zl (lN (sumN (bmT e S kk (t - 1)) n)), zu, zl (lN (t ^ zpc S)), zu, zi (nI n), zl (lN ((t - 1) ^ i)), zu, zi (nI m)] [] h2 (zJl S c e N (bombP e S kk t w)) := by
            intro g
            induction g with
            | zero =>
              intro m i hg hm
              refine wX12_bombs_126 ?_
              rw [j2.m0, bitsI_nI hS, nI_leb (by omega) (by omega)]
              refine br_t (by omega) ?_
              rw [lN_add, nI_1]
              have ei : i = zpc S - zpc n := by omega
              rw [ei]
              exact nx h2 (by omega) j2
            | succ g ih2 =>
              intro m i hg hm
              refine wX12_bombs_126 ?_
              rw [j2.m0, bitsI_nI hS, nI_leb (by omega) (by omega)]
              refine br_f (by omega) ?_
              rw [tb, lN_mul, ← Nat.pow_succ, nI_1]
              exact ih2 (m + 1) (i + 1) (by omega) (by omega)
          exact inner (zpc S - zpc n) (zpc n) 0 (by omega) rfl
        · have := IH h2 (by omega) j2
          rw [show bmT e S kk (t - 1) n = 0 from if_neg (fun z => q z.2), Nat.add_zero] at this
          exact this
  have key1 : ∀ (f n : Nat), f + n = zpc S → zT G (d + 7) mX12_bombs 42 [zr 5 0, zi (nI t), zi (nI kk), zi w, zl 0, zu, zl (lN (t ^ n)), zu, zi (nI n), zu, zu, zu] [] h (zJl S c e N (bombP e S kk t w)) := by
    intro f
    induction f with
    | zero =>
      intro n hn
      have en : n = zpc S := by omega
      subst en
      refine wX12_bombs_42 ?_
      rw [j.m0, bitsI_nI hS, nI_leb (by omega) (by omega)]
      exact br_t (Nat.le_refl _) (key2 4096 0 h (by omega) j)
    | succ f ih =>
      intro n hn
      refine wX12_bombs_42 ?_
      rw [j.m0, bitsI_nI hS, nI_leb (by omega) (by omega)]
      refine br_f (by omega) ?_
      rw [nI_l (show t < 2 ^ 31 by omega), lN_mul, ← Nat.pow_succ, nI_1]
      exact ih (n + 1) (by omega)
  exact key1 (zpc S) 0 (by omega)
