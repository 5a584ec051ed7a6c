/-! ===== tapNext, both sides ===== -/
theorem nt_ok {h : ZH} {S T p : Nat} {c e : ZQ5} {N : ZN} (j : JX h S c e N) (hT : zle T S) (hp : p < 12) : ∃ k : Nat, k ≤ 50 ∧ ntV e T p = nI k := by
  unfold ntV
  by_cases b : T.testBit p = true
  · rw [if_pos b]
    obtain ⟨w, hw, ew⟩ := j.wOk p hp (hT p b)
    obtain ⟨l, hl, el⟩ := lds_ok (j.wOk.sub hT) hp
    unfold noteI
    rw [ew, el, show (7 : Int32) = nI 7 by decide, show (3 : Int32) = nI 3 by decide, show (50 : Int32) = nI 50 by decide, pk_mul, pk_mul, nI_add, pk_rem (by omega) (by decide) (by decide)]
    exact ⟨_, by omega, rfl⟩
  · rw [if_neg b]
    exact ⟨50, Nat.le_refl _, rfl⟩
def ntN (e : ZQ5) (S q p : Nat) : Nat := (ntV e (stl e (zsd S (2 ^ p))) q).toNatClampNeg
theorem ntN_ok {h : ZH} {S q : Nat} {c e : ZQ5} {N : ZN} (j : JX h S c e N) (hq : q < 12) (p : Nat) : ntN e S q p ≤ 50 ∧ ntV e (stl e (zsd S (2 ^ p))) q = nI (ntN e S q p) := by
  obtain ⟨k, hk, ek⟩ := nt_ok j (stl_sub (U := 2 ^ p) j.lt (zle_rf S)) hq
  unfold ntN
  rw [ek, nI_cl (show k ≤ 4096 by omega)]
  exact ⟨hk, rfl⟩
def hrd (K : Nat → Nat) (sus : Nat) : Nat → Nat
  | 0 => 0
  | n + 1 => if sus.testBit n = true then hrd K sus n ||| 2 ^ K n else hrd K sus n
theorem hrd_lt {K : Nat → Nat} {sus : Nat} (hK : ∀ p, K p ≤ 50) : ∀ n, hrd K sus n < 2 ^ 51 := by
  intro n
  induction n with
  | zero => exact Nat.two_pow_pos 51
  | succ n ih =>
    rw [hrd]
    split
    · exact Nat.or_lt_two_pow ih (Nat.pow_lt_pow_right (by decide) (by have := hK n; omega))
    · exact ih
theorem shl_1 {k : Nat} (hk : k ≤ 50) : (1 : Int64) <<< ((nI k).toInt64 &&& 63) = lN (2 ^ k) := by
  have : ∀ k, k < 51 → (1 : Int64) <<< ((nI k).toInt64 &&& 63) = lN (2 ^ k) := by decide +kernel
  exact this k (by omega)
theorem j19 {h : ZH} {S : Nat} {c e : ZQ5} {N : ZN} (j : JX h S c e N) (q : Nat) (v : Int64) : JX (zs2 h 19 0 q v) S c e N :=
  j.fm (ex := fun k _ => decide (k = 19)) (zfx.s2 _ h v (by simp)) (fun k jj q => by
    unfold eA at q
    simp only [Bool.or_eq_false_iff, decide_eq_false_iff_not] at q ⊢
    omega) (fun _ => by simp) (fun _ => by simp)
def cntH (e : ZQ5) (S sus q : Nat) : Nat := fb_ct (fun i => (hrd (ntN e S q) sus 12).testBit i) 51
set_option maxHeartbeats 1000000 in
theorem jX3_hearAll {G : ZG} (d : Nat) {h : ZH} {S sus : Nat} {c e : ZQ5} {N : ZN} (hs : sus < 4096) (j : JX h S c e N) : zC G (d + 5) mX3_hearAll [zr 1 0, zi (nI sus)] h (fun r h' => r = none ∧ JX h' S c e N ∧ ∀ q, q < 12 → h'.2 19 0 q = lN (hrd (ntN e S q) sus 12)) := by
  refine zC_of (by decide +kernel) (Nat.le_of_ble_eq_true rfl) (L := [zr 1 0, zi (nI sus), zu, zu, zu]) ⟨rfl, ⟨rfl, trivial⟩⟩ ?_
  refine wX3_hearAll_0 ?_
  refine zC_mono (sJ7_fillL (n := 12) (d + 3) rfl (by decide)) ?_
  rintro r h1 ⟨rfl, e1⟩
  refine ⟨rfl, ?_⟩
  have j1 : JX h1 S c e N := by
    refine j.fm (ex := fun k _ => decide (k = 19)) ?_ (fun k jj q => ?_) (fun _ => by simp) (fun _ => by simp)
    · rw [e1]
      exact zfx.R2 _ h _ (fun _ => by simp)
    · unfold eA at q
      simp only [Bool.or_eq_false_iff, decide_eq_false_iff_not] at q ⊢
      omega
  have key : ∀ (f m : Nat), f + m = 12 → ∀ h2 : ZH, JX h2 S c e N → (∀ q, q < 12 → h2.2 19 0 q = lN (hrd (ntN e S q) sus m)) → zT G (d + 5) mX3_hearAll 10 [zr 1 0, zi (nI sus), zi (nI m), zu, zu] [] h2 (fun r h' => r = none ∧ JX h' S c e N ∧ ∀ q, q < 12 → h'.2 19 0 q = lN (hrd (ntN e S q) sus 12)) := by
    intro f
    induction f with
    | zero =>
      intro m hm h2 j2 w2
      have em : m = 12 := by omega
      subst em
      refine wX3_hearAll_10 ?_
      exact br_t (by decide) ⟨rfl, j2, w2⟩
    | succ f ih =>
      intro m hm h2 j2 w2
      refine wX3_hearAll_10 ?_
      refine br_f (nI_ge (a := m) (b := 12) (by omega) (by decide)) ?_
      rw [zbit0 hs (show m < 32 by omega)]
      refine ⟨fun b => ?_, fun b => ?_⟩
      · have b' := Classical.not_not.mp b
        rw [j2.st6, zsd_p j2.lt (show m < 12 by omega)]
        refine zC_mono (jX3_leftOf d j2 (zsd_le j2.lt)) ?_
        rintro r h3 ⟨rfl, j3, f3⟩
        refine ⟨_, rfl, ?_⟩
        have hL : zle (stl e (zsd S (2 ^ m))) S := stl_sub j.lt (zle_rf S)
        refine zC_mono (sX4_weighIn (d + 1) j3.c (zle_lt hL j.lt)) ?_
        rintro r h4 ⟨rfl, f4, ld⟩
        refine ⟨rfl, ?_⟩
        have j4 : JX h4 S c e N := j3.fL f4
        have ld4 : ∀ p, p < 12 → h4.1 15 0 p = zlds e (stl e (zsd S (2 ^ m))) p := fun p hp => by rw [ld p hp, j3.ldsE hL]
        have w4 : ∀ q, q < 12 → h4.2 19 0 q = lN (hrd (ntN e S q) sus m) := fun q hq => by
          rw [(f4 19 0 q (eL_no (by decide))).2, (f3 19 0 q (eF_no (by decide) (by decide) (by decide))).2]
          exact w2 q hq
        have inner : ∀ (g i : Nat), g + i = 12 → ∀ h5 : ZH, JX h5 S c e N → (∀ p, p < 12 → h5.1 15 0 p = zlds e (stl e (zsd S (2 ^ m))) p) → (∀ q, q < 12 → h5.2 19 0 q = lN (hrd (ntN e S q) sus (if q < i then m + 1 else m))) → zT G (d + 5) mX3_hearAll 56 [zr 1 0, zi (nI sus), zi (nI m), zi (nI (stl e (zsd S (2 ^ m)))), zi (nI i)] [] h5 (fun r h' => r = none ∧ JX h' S c e N ∧ ∀ q, q < 12 → h'.2 19 0 q = lN (hrd (ntN e S q) sus 12)) := by
          intro g
          induction g with
          | zero =>
            intro i hi h5 j5 ld5 w5
            have ei : i = 12 := by omega
            subst ei
            refine wX3_hearAll_56 ?_
            refine br_t (by decide) ?_
            rw [nI_1]
            exact ih (m + 1) (by omega) h5 j5 fun q hq => by
              have := w5 q hq
              rw [if_pos hq] at this
              exact this
          | succ g ih2 =>
            intro i hi h5 j5 ld5 w5
            have hi' : i < 12 := by omega
            refine wX3_hearAll_56 ?_
            refine br_f (nI_ge (a := i) (b := 12) (by omega) (by decide)) ?_
            refine ⟨vpn hi' (by decide), ?_⟩
            refine zC_mono (jX3_noteIn (d + 2) j5 hL hi' ld5) ?_
            rintro r h6 ⟨rfl, e6⟩
            have nk := ntN_ok j hi' m
            refine ⟨_, rfl, vpn hi' (by decide), ?_⟩
            intro h7 e7
            rw [e6, nI_cl (show i ≤ 4096 by omega), w5 i hi', if_neg (Nat.lt_irrefl i), nk.2, shl_1 nk.1, fb_orL] at e7
            rw [nI_1]
            refine ih2 (i + 1) (by omega) h7 ?_ ?_ ?_
            · rw [e7]; exact j19 j5 _ _
            · intro p hp
              rw [e7]
              exact ld5 p hp
            · intro q hq
              rw [e7, zs2_at]
              by_cases z : q = i
              · subst z
                rw [if_pos ⟨rfl, rfl, rfl⟩, if_pos (Nat.lt_succ_self q), hrd, if_pos b']
              · rw [if_neg (fun y => z y.2.2), w5 q hq]
                by_cases y : q < i
                · rw [if_pos y, if_pos (by omega)]
                · rw [if_neg y, if_neg (by omega)]
        exact inner 12 0 (by decide) h4 j4 ld4 fun q hq => by
          rw [if_neg (Nat.not_lt_zero q)]
          exact w4 q hq
      · rw [nI_1]
        exact ih (m + 1) (by omega) h2 j2 fun q hq => by
          rw [hrd, if_neg b]
          exact w2 q hq
  refine key 12 0 (by decide) h1 j1 fun q hq => ?_
  rw [e1, zsR2_at, if_pos ⟨rfl, rfl⟩]
  unfold zfl
  rw [if_pos hq]
  rfl
theorem ct51 {x : Nat} (hx : x < 2 ^ 51) : fb_ct (fun p => x.testBit p) 64 = fb_ct (fun p => x.testBit p) 51 := by
  rw [show 64 = 51 + 13 by decide, fb_ct_split]
  have : fb_ct (fun k => x.testBit (51 + k)) 13 = 0 := fb_ct_zero.mpr fun k _ => Nat.testBit_lt_two_pow (Nat.lt_of_lt_of_le hx (Nat.pow_le_pow_right (by decide) (by omega)))
  rw [this, Nat.add_zero]
def bestQ (C : Nat → Nat) : Nat → Nat
  | 0 => 0
  | n + 1 => if C (bestQ C n) < C (n + 1) then n + 1 else bestQ C n
theorem bestQ_le (C : Nat → Nat) : ∀ n, bestQ C n ≤ n := by
  intro n
  induction n with
  | zero => exact Nat.le_refl _
  | succ n ih =>
    rw [bestQ]
    split <;> omega
theorem cnt_le (e : ZQ5) (S sus q : Nat) : cntH e S sus q ≤ 51 := fb_ct_le _ 51
theorem jX3_bestTap {G : ZG} (d : Nat) {h : ZH} {S sus : Nat} {c e : ZQ5} {N : ZN} (hs : sus < 4096) (j : JX h S c e N) : zC G (d + 6) mX3_bestTap [zr 1 0, zi (nI sus)] h (zJ S c e N (if 2 ≤ zpc sus then nI (bestQ (cntH e S sus) 11) else -4)) := by
  refine zC_of (by decide +kernel) (Nat.le_of_ble_eq_true rfl) (L := [zr 1 0, zi (nI sus), zu, zu]) ⟨rfl, ⟨rfl, trivial⟩⟩ ?_
  refine wX3_bestTap_0 ?_
  have pl := zpc_le sus
  rw [bcI_nI hs, show (2 : Int32) ≤ nI (zpc sus) ↔ 2 ≤ zpc sus from nI_leI (a := 2) (by decide) (by omega)]
  refine ⟨fun a => ?_, fun a => ⟨by rw [if_neg a], j⟩⟩
  rw [if_pos a]
  refine zC_mono (jX3_hearAll d hs j) ?_
  rintro r h1 ⟨rfl, j1, w1⟩
  refine ⟨rfl, ?_⟩
  have bc : ∀ q, q < 12 → bcL (h1.2 19 0 q) = nI (cntH e S sus q) := fun q hq => by
    have lt := hrd_lt (K := ntN e S q) (sus := sus) (fun p => (ntN_ok j hq p).1) 12
    rw [w1 q hq, bcL_n (by omega), ct51 lt]
    rfl
  have key : ∀ (f m : Nat), f + m = 11 → zT G (d + 6) mX3_bestTap 20 [zr 1 0, zi (nI sus), zi (nI (bestQ (cntH e S sus) m)), zi (nI (m + 1))] [] h1 (zJ S c e N (nI (bestQ (cntH e S sus) 11))) := by
    intro f
    induction f with
    | zero =>
      intro m hm
      have em : m = 11 := by omega
      subst em
      refine wX3_bestTap_20 ?_
      exact br_t (by decide) ⟨rfl, j1⟩
    | succ f ih =>
      intro m hm
      have bl := bestQ_le (cntH e S sus) m
      refine wX3_bestTap_20 ?_
      refine br_f (nI_ge (a := m + 1) (b := 12) (by omega) (by decide)) ⟨vpn (by omega) (by decide), ?_⟩
      refine zC_mono (sJ13_bitCount_95d88 (d + 4)) ?_
      rintro r h2 ⟨rfl, e2⟩
      refine ⟨_, rfl, vpn (by omega) (by decide), ?_⟩
      refine zC_mono (sJ13_bitCount_95d88 (d + 4)) ?_
      rintro r h3 ⟨rfl, e3⟩
      refine ⟨_, rfl, ?_⟩
      rw [e3, e2, nI_cl (show m + 1 ≤ 4096 by omega), nI_cl (show bestQ (cntH e S sus) m ≤ 4096 by omega), bc _ (by omega), bc _ (by omega)]
      have c1 := cnt_le e S sus (m + 1)
      have c2 := cnt_le e S sus (bestQ (cntH e S sus) m)
      rw [nI_leI (by omega) (by omega), nI_1]
      have IH := ih (m + 1) (by omega)
      rw [bestQ] at IH
      refine ⟨fun q => ?_, fun q => ?_⟩
      · rw [if_neg (by omega)] at IH; exact IH
      · rw [if_pos (by omega)] at IH; exact IH
  exact key 11 0 (by decide)
def tapV (h0 : ZH) (e : ZQ5) (S : Nat) (x : Int32) : Int32 := if notesNo h0 x = 0 then (if 2 ≤ zpc (zmk (sus1 e (elN h0 x.toNatClampNeg) S ((h0.1 42 0 x.toNatClampNeg).toNatClampNeg / 2)) 12) then nI (bestQ (cntH e S (zmk (sus1 e (elN h0 x.toNatClampNeg) S ((h0.1 42 0 x.toNatClampNeg).toNatClampNeg / 2)) 12)) 11) else -4) else notesNo h0 x
theorem pX11_tapNext {G : ZG} (d : Nat) {h : ZH} {S : Nat} {c e : ZQ5} {N : ZN} (j : JX h S c e N) (x : Int32) : zC G (d + 7) mX11_tapNext [zr 0 0, zi x] h (zJ S c e N (tapV N.2 e S x)) := by
  refine zC_of (by decide +kernel) (Nat.le_of_ble_eq_true rfl) (L := [zr 0 0, zi x, zu]) ⟨rfl, ⟨rfl, trivial⟩⟩ ?_
  refine wX11_tapNext_0 ?_
  unfold tapV
  refine zC_mono (jX11_notesRefused (d + 3) j x) ?_
  rintro r h1 ⟨rfl, rfl⟩
  refine ⟨_, rfl, fun z => ?_, fun z => ⟨by rw [if_neg z], j⟩⟩
  rw [if_pos z]
  obtain ⟨dd, m, rfl, hd, hr⟩ := notes_0 j.sh0 z
  rw [nI_cl (show dd ≤ 4096 by omega), hr.2.2.2.1, nI_cl (show 2 * m ≤ 4096 by have := hr.2.1; omega), show 2 * m / 2 = m by omega]
  refine ⟨vpn hd (by decide), ?_⟩
  refine zC_mono (jX3_suspectsBy (d + 1) hr j) ?_
  rintro r h2 ⟨rfl, j2⟩
  refine ⟨_, rfl, ?_⟩
  refine zC_mono (jX3_bestTap d (zms_lt _) j2) ?_
  rintro r h3 ⟨rfl, j3⟩
  exact ⟨_, rfl, rfl, j3⟩
theorem shr_1 {x k : Nat} (hx : x < 2 ^ 51) (hk : k ≤ 50) : ((lN x >>> ((nI k).toInt64 &&& 63)) &&& 1).toInt32 = nI (if x.testBit k = true then 1 else 0) := by
  have hD : (((nI k).toInt64 &&& 63).toBitVec.smod 64).toNat = k := by
    have : ∀ k, k < 51 → (((nI k).toInt64 &&& 63).toBitVec.smod 64).toNat = k := by decide +kernel
    exact this k (by omega)
  rw [pf_shr hD (by omega), show (1 : Int64) = lN 1 by decide, fb_andL, lN_i]
  congr 1
  have e1 : x / 2 ^ k &&& 1 = x / 2 ^ k % 2 := Nat.and_one_is_mod _
  have e2 : x.testBit k = decide (x / 2 ^ k % 2 = 1) := Nat.testBit_eq_decide_div_mod_eq
  rw [e1, e2]
  by_cases q : x / 2 ^ k % 2 = 1
  · simp [q]
  · have : x / 2 ^ k % 2 = 0 := by omega
    simp [this]
theorem jX12_kindsBy {G : ZG} (d : Nat) {h : ZH} {S sus q : Nat} {c e : ZQ5} {N : ZN} (hs : sus < 4096) (hq : q < 12) (j : JX h S c e N) : zC G (d + 8) mX12_kindsBy [zr 5 0, zi (nI q), zi (nI sus)] h (zJ S c e N (nI (cntH e S sus q))) := by
  refine zC_of (by decide +kernel) (Nat.le_of_ble_eq_true rfl) (L := [zr 5 0, zi (nI q), zi (nI sus), zu, zu, zu, zu]) ⟨rfl, ⟨rfl, ⟨rfl, trivial⟩⟩⟩ ?_
  refine wX12_kindsBy_0 ?_
  have lt := hrd_lt (K := ntN e S q) (sus := sus) (fun p => (ntN_ok j hq p).1) 12
  have k2 : ∀ (f m : Nat), f + m = 51 → ∀ h1 : ZH, JX h1 S c e N → zT G (d + 8) mX12_kindsBy 49 [zr 5 0, zi (nI q), zi (nI sus), zl (lN (hrd (ntN e S q) sus 12)), zu, zi (nI (fb_ct (fun i => (hrd (ntN e S q) sus 12).testBit i) m)), zi (nI m)] [] h1 (zJ S c e N (nI (cntH e S sus q))) := by
    intro f
    induction f with
    | zero =>
      intro m hm h1 j1
      have em : m = 51 := by omega
      subst em
      refine wX12_kindsBy_49 ?_
      exact br_t (by decide) ⟨rfl, j1⟩
    | succ f ih =>
      intro m hm h1 j1
      refine wX12_kindsBy_49 ?_
      refine br_f (nI_nlt (b := m) (a := 50) (by omega) (by decide)) ?_
      rw [shr_1 lt (by omega), nI_add, nI_1]
      exact ih (m + 1) (by omega) h1 j1
  have k1 : ∀ (f m : Nat), f + m = 12 → ∀ h1 : ZH, JX h1 S c e N → zT G (d + 8) mX12_kindsBy 5 [zr 5 0, zi (nI q), zi (nI sus), zl (lN (hrd (ntN e S q) sus m)), zu, zi (nI m), zu] [] h1 (zJ S c e N (nI (cntH e S sus q))) := by
    intro f
    induction f with
    | zero =>
      intro m hm h1 j1
      have em : m = 12 := by omega
      subst em
      refine wX12_kindsBy_5 ?_
      exact br_t (by decide) (k2 51 0 (by decide) h1 j1)
    | succ f ih =>
      intro m hm h1 j1
      refine wX12_kindsBy_5 ?_
      refine br_f (nI_ge (a := m) (b := 12) (by omega) (by decide)) ?_
      rw [hasI_iff hs (show m < 32 by omega), nI_1]
      refine ⟨fun b => ?_, fun b => ?_⟩
      · have := ih (m + 1) (by omega) h1 j1
        rw [hrd, if_neg b] at this
        rw [show (0 : Int64) = lN 0 by decide, fb_orL, Nat.or_zero]
        exact this
      · refine zC_mono (jX12_noteWithout d j1 hq (show m < 12 by omega)) ?_
        rintro r h2 ⟨rfl, j2⟩
        refine ⟨_, rfl, ?_⟩
        have nk := ntN_ok j hq m
        rw [nk.2, shl_1 nk.1, fb_orL]
        have := ih (m + 1) (by omega) h2 j2
        rw [hrd, if_pos b] at this
        exact this
  exact k1 12 0 (by decide) h j
theorem pX12_tapNext {G : ZG} (d : Nat) {h : ZH} {S : Nat} {c e : ZQ5} {N : ZN} (j : JX h S c e N) (x : Int32) : zC G (d + 9) mX12_tapNext [zr 5 0, zi x] h (zJ S c e N (tapV N.2 e S x)) := by
  refine zC_of (by decide +kernel) (Nat.le_of_ble_eq_true rfl) (L := [zr 5 0, zi x, zu, zu, zu, zu, zu, zu]) ⟨rfl, ⟨rfl, trivial⟩⟩ ?_
  refine wX12_tapNext_0 ?_
  unfold tapV
  refine zC_mono (jX12_wrongPairs (d + 4) j x) ?_
  rintro r h1 ⟨rfl, rfl⟩
  refine ⟨_, rfl, fun z => ?_, fun z => ⟨by rw [if_neg z], j⟩⟩
  rw [if_pos z]
  generalize hy : notesNo N.2 x = y3
  obtain ⟨dd, m, rfl, hd, hr⟩ := notes_0 j.sh0 z
  rw [nI_cl (show dd ≤ 4096 by omega), hr.2.2.2.1, nI_cl (show 2 * m ≤ 4096 by have := hr.2.1; omega), show 2 * m / 2 = m by omega]
  refine zC_mono (jX12_whichOf d hr j) ?_
  rintro r h2 ⟨rfl, j2⟩
  have hs : zmk (sus1 e (elN N.2 dd) S m) 12 < 4096 := zms_lt _
  generalize zmk (sus1 e (elN N.2 dd) S m) 12 = sus at *
  have pl := zpc_le sus
  refine ⟨_, rfl, ?_⟩
  rw [bitsI_nI hs, show (2 : Int32) ≤ nI (zpc sus) ↔ 2 ≤ zpc sus from nI_leI (a := 2) (by decide) (by omega)]
  refine ⟨fun a => ?_, fun a => ⟨by rw [if_neg a], j2⟩⟩
  rw [if_pos a]
  have key : ∀ (f m : Nat), f + m = 11 → ∀ h3 : ZH, JX h3 S c e N → zT G (d + 9) mX12_tapNext 38 [zr 5 0, zi (nI dd), zi y3, zi (nI sus), zi (nI (bestQ (cntH e S sus) m)), zi (nI (cntH e S sus (bestQ (cntH e S sus) m))), zi (nI (m + 1)), zu] [] h3 (zJ S c e N (nI (bestQ (cntH e S sus) 11))) := by
    intro f
    induction f with
    | zero =>
      intro m hm h3 j3
      have em : m = 11 := by omega
      subst em
      refine wX12_tapNext_38 ?_
      exact br_t (by decide) ⟨rfl, j3⟩
    | succ f ih =>
      intro m hm h3 j3
      refine wX12_tapNext_38 ?_
      refine br_f (nI_ge (a := m + 1) (b := 12) (by omega) (by decide)) ?_
      refine zC_mono (jX12_kindsBy d hs (show m + 1 < 12 by omega) j3) ?_
      rintro r h4 ⟨rfl, j4⟩
      refine ⟨_, rfl, ?_⟩
      have c1 := cnt_le e S sus (m + 1)
      have c2 := cnt_le e S sus (bestQ (cntH e S sus) m)
      rw [nI_ltI (by omega) (by omega), nI_1]
      have IH := ih (m + 1) (by omega) h4 j4
      rw [bestQ] at IH
      refine ⟨fun q => ?_, fun q => ?_⟩
      · rw [if_pos q] at IH; exact IH
      · rw [if_neg q] at IH; exact IH
  refine wX12_tapNext_38 ?_
  refine br_f (by decide) ?_
  refine zC_mono (jX12_kindsBy (q := 0) d hs (by decide) j2) ?_
  rintro r h4 ⟨rfl, j4⟩
  refine ⟨_, rfl, fun q => key 11 0 (by decide) h4 j4, fun q => ?_⟩
  have c0 : cntH e S sus 0 = 0 := by
    have c1 := cnt_le e S sus 0
    rcases Nat.eq_zero_or_pos (cntH e S sus 0) with z | z
    · exact z
    · exact absurd (nI_lt (a := 0) z (by omega)) q
  have := key 11 0 (by decide) h4 j4
  rw [show cntH e S sus (bestQ (cntH e S sus) 0) = 0 from c0] at this
  exact this
