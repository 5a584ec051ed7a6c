/-! ===== judge, raids, both sides ===== -/
theorem JX.k0 {h : ZH} {S : Nat} {c e : ZQ5} {N : ZN} (j : JX h S c e N) {k : Nat} (hk : k = 3 ∨ k = 16 ∨ 38 ≤ k) (i jj : Nat) : h.1 k i jj = N.2.1 k i jj := (j.sn k i jj (eA_no (by omega))).1
theorem JX.sh0 {h : ZH} {S : Nat} {c e : ZQ5} {N : ZN} (j : JX h S c e N) : SH N.2 := fun d hd => (j.sh d hd).fr (funext fun x => (j.k0 (by decide) d x).symm) (funext fun x => (j.k0 (by decide) d x).symm) (fun k _ _ => funext fun x => (j.k0 (by omega) 0 x).symm)
theorem JX.rr {h : ZH} {S : Nat} {c e : ZQ5} {N : ZN} (j : JX h S c e N) (x : Int32) : rowRefI h x = rowRefI N.2 x := by
  unfold rowRefI
  rw [j.k0 (by decide)]
theorem JX.wr {h : ZH} {S : Nat} {c e : ZQ5} {N : ZN} (j : JX h S c e N) (x : Int32) : wRowI h x (-1) = rowRefI N.2 x := by
  rw [← rr_eq j.sh, j.rr]
def elN (h0 : ZH) (d i : Nat) : Int32 := h0.1 43 0 (100 * d + i)
theorem JX.at_n {h : ZH} {S : Nat} {c e : ZQ5} {N : ZN} (j : JX h S c e N) {d n i : Nat} (hn : n ≤ 100) (e4 : N.2.1 3 d 4 = nI n) (eq : ∀ i, i < 100 → N.2.1 16 d i = N.2.1 43 0 (100 * d + i)) (hi : i < n) : shAt h d (nI i) = elN N.2 d i := by
  unfold shAt
  rw [j.k0 (by decide), e4, nI_cl (show i ≤ 4096 by omega), j.k0 (by decide), if_pos]
  · exact eq i (by omega)
  · refine ⟨?_, ?_⟩
    · rw [fa_le, nI_toInt (by omega)]
      have : (0 : Int32).toInt = 0 := by decide
      omega
    · rw [fa_lt, nI_toInt (by omega), nI_toInt (by omega)]
      omega
theorem ix_el {d i : Nat} (hd : d < 8) (hi : i < 100) : 100 * nI d + nI i = nI (100 * d + i) ∧ vp_in (nI (100 * d + i)) 800 ∧ (nI (100 * d + i)).toNatClampNeg = 100 * d + i := by
  refine ⟨?_, vpn (by omega) (by decide), nI_cl (by omega)⟩
  rw [show (100 : Int32) = nI 100 from by decide, pk_mul, nI_add]
theorem nI_leb {a b : Nat} (ha : a < 2 ^ 31) (hb : b < 2 ^ 31) : nI a ≤ nI b ↔ a ≤ b := by
  rw [fa_le, nI_toInt ha, nI_toInt hb]
  omega
theorem n100 {n : Nat} (hn : n ≤ 100) : nI n ≤ 100 := by
  rw [show (100 : Int32) = nI 100 from by decide, nI_leb (by omega) (by omega)]
  exact hn
def jdF (e : ZQ5) (E : Nat → Int32) : Nat → Nat → Nat → Int32
  | 0, _, _ => -4
  | f + 1, i, T => if safe1 e T (E i).toNatClampNeg = true then jdF e E f (i + 1) (zsd T (2 ^ (E i).toNatClampNeg)) else nI i
def judgeV (h0 : ZH) (e : ZQ5) (S : Nat) (x : Int32) : Int32 := if rowRefI h0 x = 0 then (if ∀ i, i < (h0.1 42 0 x.toNatClampNeg).toNatClampNeg → (0 ≤ elN h0 x.toNatClampNeg i ∧ elN h0 x.toNatClampNeg i ≤ 11) then jdF e (elN h0 x.toNatClampNeg) (h0.1 42 0 x.toNatClampNeg).toNatClampNeg 0 S else -13) else rowRefI h0 x
theorem pX11_judge {G : ZG} (d : Nat) {h : ZH} {S : Nat} {c e : ZQ5} {N : ZN} (j : JX h S c e N) (x : Int32) : zC G (d + 7) mX11_judge [zr 0 0, zi x] h (zJ S c e N (judgeV N.2 e S x)) := by
  refine zC_of (by decide +kernel) (Nat.le_of_ble_eq_true rfl) (L := [zr 0 0, zi x, zu, zu, zu]) ⟨rfl, ⟨rfl, trivial⟩⟩ ?_
  refine wX11_judge_0 ?_
  rw [j.rr]
  unfold judgeV
  refine ⟨fun z => ?_, fun z => ⟨by rw [if_neg z], j⟩⟩
  obtain ⟨dd, n, t, hd, hn, ht, rfl, e4, e42, k1, k2, t1, t2, el⟩ := rr_0 j.sh0 z
  have el' : ∀ i, i < 100 → N.2.1 16 dd i = N.2.1 43 0 (100 * dd + i) := fun i hi => (el i hi).1
  rw [if_pos z, nI_cl (show dd ≤ 4096 by omega), e42, nI_cl (show n ≤ 4096 by omega), z]
  refine ⟨vpn hd (by decide), ?_⟩
  have bad : ∀ {i : Nat}, i < n → ¬ (0 ≤ elN N.2 dd i ∧ elN N.2 dd i ≤ 11) → (if ∀ i, i < n → (0 ≤ elN N.2 dd i ∧ elN N.2 dd i ≤ 11) then jdF e (elN N.2 dd) n 0 S else -13) = -13 := fun {i} hi q => by
    rw [if_neg (fun w => q (w i hi))]
  have key1 : ∀ (f i : Nat), f + i = n → (∀ k, k < i → (0 ≤ elN N.2 dd k ∧ elN N.2 dd k ≤ 11)) → zT G (d + 7) mX11_judge 22 [zr 0 0, zi (nI dd), zi 0, zr 3 dd, zi (nI i)] [] h (zJ S c e N (if ∀ i, i < n → (0 ≤ elN N.2 dd i ∧ elN N.2 dd i ≤ 11) then jdF e (elN N.2 dd) n 0 S else -13)) := by
    intro f
    induction f with
    | zero =>
      intro i hi hok
      have ei : i = n := by omega
      subst ei
      refine wX11_judge_22 hd ?_
      rw [j.k0 (by decide), e4]
      refine br_t ((nI_leb (by omega) (by omega)).mpr (Nat.le_refl _)) ?_
      rw [if_pos hok]
      have fb : zC G (d + 6) mX3_firstBadTaking [zr 1 0, zr 3 dd] h (zJ S c e N (jdF e (elN N.2 dd) i 0 S)) := by
        refine zC_of (by decide +kernel) (Nat.le_of_ble_eq_true rfl) (L := [zr 1 0, zr 3 dd, zu, zu]) ⟨rfl, ⟨rfl, trivial⟩⟩ ?_
        refine wX3_firstBadTaking_0 hd ?_
        rw [j.st6]
        have key2 : ∀ (f m T : Nat) (h1 : ZH), f + m = i → zle T S → JX h1 S c e N → zT G (d + 6) mX3_firstBadTaking 10 [zr 1 0, zr 3 dd, zi (nI T), zi (nI m)] [] h1 (zJ S c e N (jdF e (elN N.2 dd) f m T)) := by
          intro f
          induction f with
          | zero =>
            intro m T h1 hm hT j1
            have em : m = i := by omega
            subst em
            refine wX3_firstBadTaking_10 hd ?_
            rw [j1.k0 (by decide), e4]
            exact br_t ((nI_leb (by omega) (by omega)).mpr (Nat.le_refl _)) ⟨rfl, j1⟩
          | succ f ih =>
            intro m T h1 hm hT j1
            have hT4 := zle_lt hT j.lt
            have hm' : m < i := by omega
            obtain ⟨p, hp, ep⟩ := zin12 (hok m hm')
            refine wX3_firstBadTaking_10 hd ?_
            rw [j1.k0 (by decide), e4]
            refine br_f (fun q => by have := (nI_leb (by omega) (by omega)).mp q; omega) ?_
            refine ⟨n100 hn, ?_⟩
            rw [j1.at_n hn e4 el' hm', ep]
            refine zC_mono (jX3_isSafeIn d j1 hT hp) ?_
            rintro r h2 ⟨rfl, j2⟩
            refine ⟨_, rfl, ?_⟩
            rw [zb_eq0, jdF, ep, nI_cl (show p ≤ 4096 by omega)]
            refine ⟨fun q => ?_, fun q => ⟨by rw [if_neg q], j2⟩⟩
            rw [j2.k0 (by decide), e4]
            refine ⟨n100 hn, ?_⟩
            rw [j2.at_n hn e4 el' hm', ep, zsd_p hT4 hp, nI_1]
            intro y ey
            rw [ey, if_pos (Classical.not_not.mp q)]
            exact ih (m + 1) _ h2 (by omega) (zle_sd hT4 hT) j2
        exact key2 i 0 S h (by omega) (zle_rf S) j
      refine zC_mono fb ?_
      rintro r h1 ⟨rfl, j1⟩
      exact ⟨_, rfl, rfl, j1⟩
    | succ f ih =>
      intro i hi hok
      have hi' : i < n := by omega
      refine wX11_judge_22 hd ?_
      rw [j.k0 (by decide), e4]
      refine br_f (fun q => by have := (nI_leb (by omega) (by omega)).mp q; omega) ?_
      refine ⟨n100 hn, ?_⟩
      rw [j.at_n hn e4 el' hi', nI_1]
      refine ⟨fun q => ih (i + 1) (by omega) (fun k hk => ?_), fun q => ⟨by rw [bad hi' q], j⟩⟩
      by_cases zz : k = i
      · rw [zz]; exact q
      · exact hok k (by omega)
  exact key1 n 0 (by omega) (fun k hk => absurd hk (Nat.not_lt_zero k))
theorem pX12_judge {G : ZG} (d : Nat) {h : ZH} {S : Nat} {c e : ZQ5} {N : ZN} (j : JX h S c e N) (x : Int32) : zC G (d + 8) mX12_judge [zr 5 0, zi x] h (zJ S c e N (judgeV N.2 e S x)) := by
  refine zC_of (by decide +kernel) (Nat.le_of_ble_eq_true rfl) (L := [zr 5 0, zi x, zu, zu, zu, zu]) ⟨rfl, ⟨rfl, trivial⟩⟩ ?_
  refine wX12_judge_0 ?_
  rw [j.wr]
  unfold judgeV
  refine ⟨fun z => ?_, fun z => ⟨by rw [if_neg z], j⟩⟩
  obtain ⟨dd, n, t, hd, hn, ht, rfl, e4, e42, k1, k2, t1, t2, el⟩ := rr_0 j.sh0 z
  rw [if_pos z, nI_cl (show dd ≤ 4096 by omega), e42, nI_cl (show n ≤ 4096 by omega), z]
  have v8 : vp_in (nI dd) 8 := vpn hd (by decide)
  have bad : ∀ {i : Nat}, i < n → ¬ (0 ≤ elN N.2 dd i ∧ elN N.2 dd i ≤ 11) → (if ∀ i, i < n → (0 ≤ elN N.2 dd i ∧ elN N.2 dd i ≤ 11) then jdF e (elN N.2 dd) n 0 S else -13) = -13 := fun {i} hi q => by
    rw [if_neg (fun w => q (w i hi))]
  have key1 : ∀ (f i : Nat), f + i = n → (∀ k, k < i → (0 ≤ elN N.2 dd k ∧ elN N.2 dd k ≤ 11)) → zT G (d + 8) mX12_judge 15 [zr 5 0, zi (nI dd), zi 0, zi (nI i), zu, zu] [] h (zJ S c e N (if ∀ i, i < n → (0 ≤ elN N.2 dd i ∧ elN N.2 dd i ≤ 11) then jdF e (elN N.2 dd) n 0 S else -13)) := by
    intro f
    induction f with
    | zero =>
      intro i hi hok
      have ei : i = n := by omega
      subst ei
      refine wX12_judge_15 ?_
      rw [nI_cl (show dd ≤ 4096 by omega), j.k0 (by decide), e42]
      refine ⟨v8, ?_⟩
      refine br_t ((nI_leb (by omega) (by omega)).mpr (Nat.le_refl _)) ?_
      rw [if_pos hok, j.m0]
      have key2 : ∀ (f m T : Nat) (h1 : ZH), f + m = i → zle T S → JX h1 S c e N → zT G (d + 8) mX12_judge 61 [zr 5 0, zi (nI dd), zi 0, zi (nI T), zi (nI m), zu] [] h1 (zJ S c e N (jdF e (elN N.2 dd) f m T)) := by
        intro f
        induction f with
        | zero =>
          intro m T h1 hm hT j1
          have em : m = i := by omega
          subst em
          refine wX12_judge_61 ?_
          rw [nI_cl (show dd ≤ 4096 by omega), j1.k0 (by decide), e42]
          exact ⟨v8, br_t ((nI_leb (by omega) (by omega)).mpr (Nat.le_refl _)) ⟨rfl, j1⟩⟩
        | succ f ih =>
          intro m T h1 hm hT j1
          have hT4 := zle_lt hT j.lt
          have hm' : m < i := by omega
          obtain ⟨p, hp, ep⟩ := zin12 (hok m hm')
          have ix := ix_el hd (show m < 100 by omega)
          refine wX12_judge_61 ?_
          rw [nI_cl (show dd ≤ 4096 by omega), ix.1, ix.2.2, j1.k0 (k := 42) (by decide), e42, j1.k0 (k := 43) (by decide), show N.2.1 43 0 (100 * dd + m) = nI p from ep, hasI_iff hT4 (show p < 32 by omega), zi_sh hp, zi_not hT4, nI_1]
          refine ⟨v8, ?_⟩
          refine br_f (fun q => by have := (nI_leb (by omega) (by omega)).mp q; omega) ?_
          refine ⟨ix.2.1, ?_⟩
          rw [jdF, ep, nI_cl (show p ≤ 4096 by omega)]
          refine ⟨fun q => ⟨?_, j1⟩, fun q => ?_⟩
          · rw [if_neg (by unfold safe1; simp [q])]
          · refine zC_mono (jX12_fallsOf d j1 hT4) ?_
            rintro r h2 ⟨rfl, j2, _⟩
            refine ⟨_, rfl, ?_⟩
            have le0 : nI (fallN e T (2 ^ p)) ≤ 0 ↔ stl e (zsd T (2 ^ p)) = zsd T (2 ^ p) := by
              rw [← fallN_0 hT4]
              have : ∀ v, v ≤ 12 → (nI v ≤ 0 ↔ v = 0) := by decide
              exact this _ (fallN_lt e T (2 ^ p))
            rw [le0]
            refine ⟨fun w => ?_, fun w => ⟨?_, j2⟩⟩
            · intro y ey
              rw [ey, if_pos (by unfold safe1; simp [q, w])]
              exact ih (m + 1) _ h2 (by omega) (zle_sd hT4 hT) j2
            · rw [if_neg (by unfold safe1; simp [w])]
      exact key2 i 0 S h (by omega) (zle_rf S) j
    | succ f ih =>
      intro i hi hok
      have hi' : i < n := by omega
      have ix := ix_el hd (show i < 100 by omega)
      refine wX12_judge_15 ?_
      rw [nI_cl (show dd ≤ 4096 by omega), ix.1, ix.2.2, j.k0 (k := 42) (by decide), e42, j.k0 (k := 43) (by decide), nI_1]
      refine ⟨v8, ?_⟩
      refine br_f (fun q => by have := (nI_leb (by omega) (by omega)).mp q; omega) ?_
      refine ⟨ix.2.1, fun q => ih (i + 1) (by omega) (fun k hk => ?_), fun q => ⟨by rw [bad hi' q], j⟩⟩
      by_cases zz : k = i
      · rw [zz]; exact q
      · exact hok k (by omega)
  exact key1 n 0 (by omega) (fun k hk => absurd hk (Nat.not_lt_zero k))
/-- raids -/
def drN (z : Int32) : Int32 := z * 1103515245 + 12345
def plI (z : Int32) : Int32 := ((z &&& 2147483647) / 65536) - ((z &&& 2147483647) / 65536) / 12 * 12
theorem plI_in (z : Int32) : ∃ p : Nat, p < 12 ∧ plI z = nI p := by
  obtain ⟨a, ha, ea⟩ := pk_andE z (m := 2147483647) 31 (by decide)
  unfold plI
  rw [ea]
  have e1 : nI a / 65536 = nI (a / 65536) := pk_div (d := 65536) ha (by decide) (by decide)
  rw [e1]
  have e2 : nI (a / 65536) - nI (a / 65536) / 12 * 12 = nI (a / 65536 % 12) := pk_rem (d := 12) (by omega) (by decide) (by decide)
  rw [e2]
  exact ⟨_, Nat.mod_lt _ (by decide), rfl⟩
def itF {α : Type} (g : α → α) : Nat → α → α
  | 0, a => a
  | f + 1, a => itF g f (g a)
theorem itF_s {α : Type} (g : α → α) (f : Nat) (a : α) : itF g (f + 1) a = itF g f (g a) := rfl
def bomb1 (e : ZQ5) (st : Int32 × Nat) : Int32 × Nat := (drN st.1, stl e (zsd st.2 (2 ^ (plI (drN st.1)).toNatClampNeg)))
def bombF (e : ZQ5) (f : Nat) (st : Int32 × Nat) : Int32 × Nat := itF (bomb1 e) f st
theorem bombF_s (e : ZQ5) (f : Nat) (st : Int32 × Nat) : bombF e (f + 1) st = bombF e f (bomb1 e st) := itF_s _ _ _
theorem bomb1_p {e : ZQ5} {st : Int32 × Nat} {p : Nat} (hp : p < 12) (ep : plI (drN st.1) = nI p) : bomb1 e st = (drN st.1, stl e (zsd st.2 (2 ^ p))) := by
  unfold bomb1
  rw [ep, nI_cl (show p ≤ 4096 by omega)]
/-- raids one behind the other: the draw, how many are left, how often all of the ground is -/
def raid1 (e : ZQ5) (S : Nat) (st : Int32 × Int32 × Int32) : Int32 × Int32 × Int32 := ((bombF e 3 (st.1, S)).1, st.2.1 + nI (zpc (bombF e 3 (st.1, S)).2), if zsd (S &&& 15) (bombF e 3 (st.1, S)).2 = 0 then st.2.2 + 1 else st.2.2)
def raidF (e : ZQ5) (S : Nat) (f : Nat) (st : Int32 × Int32 × Int32) : Int32 × Int32 × Int32 := itF (raid1 e S) f st
theorem raidF_s (e : ZQ5) (S : Nat) (f : Nat) (st : Int32 × Int32 × Int32) : raidF e S (f + 1) st = raidF e S f ((bombF e 3 (st.1, S)).1, st.2.1 + nI (zpc (bombF e 3 (st.1, S)).2), if zsd (S &&& 15) (bombF e 3 (st.1, S)).2 = 0 then st.2.2 + 1 else st.2.2) := itF_s _ _ _
def raidV (e : ZQ5) (S : Nat) (n z w : Int32) : Int32 := if 1 ≤ n ∧ n ≤ 20 then (if 0 ≤ w ∧ w ≤ 1 then (if w = 0 then (raidF e S n.toNatClampNeg (z, 0, 0)).2.1 else (raidF e S n.toNatClampNeg (z, 0, 0)).2.2) else -1) else -1
theorem zin20 {x : Int32} (h : 1 ≤ x ∧ x ≤ 20) : ∃ n : Nat, n ≤ 20 ∧ x = nI n := by
  obtain ⟨j, hj, e⟩ := nI_of2 (x := x) (M := 20) (n := 20) (by decide) (by
    intro q
    rw [fa_lt] at q
    have := h.1
    rw [fa_le] at this
    have e1 : (1 : Int32).toInt = 1 := by decide
    have e0 : (0 : Int32).toInt = 0 := by decide
    omega) h.2
  exact ⟨j, hj, e⟩
theorem bomb_lt (e : ZQ5) {S : Nat} (hS : S < 4096) : ∀ (f : Nat) (st : Int32 × Nat), zle st.2 S → zle (bombF e f st).2 S := by
  intro f
  induction f with
  | zero => intro st h; exact h
  | succ f ih =>
    intro st h
    rw [bombF_s]
    obtain ⟨p, hp, ep⟩ := plI_in (drN st.1)
    rw [bomb1_p hp ep]
    refine ih _ ?_
    exact zle_tr (stl_le e (zsd_lt (zle_lt h hS))) (zle_sd (zle_lt h hS) h)
theorem zsub_and {G L : Nat} (hG : G < 4096) : nI L &&& nI G = nI G ↔ zsd G L = 0 := by
  rw [zi_and, zi_inj (Nat.lt_of_le_of_lt Nat.and_le_right hG) hG, zsd_z hG]
  constructor
  · intro h p hp
    have := congrArg (fun n => Nat.testBit n p) h
    simp only [Nat.testBit_and, hp, Bool.and_true] at this
    exact this
  · intro h
    apply Nat.eq_of_testBit_eq
    intro p
    rw [Nat.testBit_and]
    by_cases q : G.testBit p = true
    · rw [h p q, q]; rfl
    · rw [eq_false_of_ne_true q, Bool.and_false]
theorem n1_0 {w : Int32} (a : 0 ≤ w ∧ w ≤ 1) (z : ¬ w = 1) : w = 0 := (n01 a).resolve_right z
set_option maxHeartbeats 1000000 in
theorem jX3_sumOfRaids {G : ZG} (d : Nat) {h : ZH} {S n : Nat} {c e : ZQ5} {N : ZN} (j : JX h S c e N) (hn : n ≤ 20) (z w : Int32) : zC G (d + 5) mX3_sumOfRaids [zr 1 0, zi (nI n), zi z, zi w] h (zJ S c e N (if w = 0 then (raidF e S n (z, 0, 0)).2.1 else (raidF e S n (z, 0, 0)).2.2)) := by
  refine zC_of (by decide +kernel) (Nat.le_of_ble_eq_true rfl) (L := [zr 1 0, zi (nI n), zi z, zi w, zu, zu, zu, zu, zu, zu]) ⟨rfl, ⟨rfl, ⟨rfl, ⟨rfl, trivial⟩⟩⟩⟩ ?_
  refine wX3_sumOfRaids_0 ?_
  rw [j.st6, z15]
  have hS := j.lt
  let F := raidF e S n (z, 0, 0)
  have key : ∀ (f m : Nat) (h1 : ZH) (st : Int32 × Int32 × Int32), f + m = n → JX h1 S c e N → raidF e S f st = F → zT G (d + 5) mX3_sumOfRaids 21 [zr 1 0, zi (nI n), zi z, zi w, zi (nI (S &&& 15)), zi st.1, zi (if w = 0 then st.2.1 else st.2.2), zi (nI m), zu, zu] [] h1 (zJ S c e N (if w = 0 then F.2.1 else F.2.2)) := by
    intro f
    induction f with
    | zero =>
      intro m h1 st hm j1 hF
      have em : m = n := by omega
      subst em
      refine wX3_sumOfRaids_21 ?_
      refine br_t ((nI_leb (by omega) (by omega)).mpr (Nat.le_refl _)) ⟨?_, j1⟩
      rw [← hF]
      rfl
    | succ f ih =>
      intro m h1 st hm j1 hF
      refine wX3_sumOfRaids_21 ?_
      refine br_f (fun q => by have := (nI_leb (by omega) (by omega)).mp q; omega) ?_
      rw [j1.st6]
      rw [raidF_s] at hF
      have inner : ∀ (g b : Nat) (h2 : ZH) (bs : Int32 × Nat), g + b = 3 → zle bs.2 S → JX h2 S c e N → bombF e g bs = bombF e 3 (st.1, S) → zT G (d + 5) mX3_sumOfRaids 39 [zr 1 0, zi (nI n), zi z, zi w, zi (nI (S &&& 15)), zi bs.1, zi (if w = 0 then st.2.1 else st.2.2), zi (nI m), zi (nI bs.2), zi (nI b)] [] h2 (zJ S c e N (if w = 0 then F.2.1 else F.2.2)) := by
        intro g
        induction g with
        | zero =>
          intro b h2 bs hb hl j2 hB
          have eb : b = 3 := by omega
          subst eb
          have hB' : bs = bombF e 3 (st.1, S) := hB
          refine wX3_sumOfRaids_39 ?_
          refine br_t (by decide) ?_
          have IH := ih (m + 1) h2 _ (by omega) j2 hF
          rw [← hB'] at IH
          have hl4 := zle_lt hl hS
          rw [bcI_nI hl4, nI_1, zsub_and (show S &&& 15 < 4096 from zand_lt hS)]
          refine ⟨fun w0 => ⟨fun q => ?_, fun q => ?_⟩, fun w0 => ?_⟩
          · rw [if_neg w0, if_neg q] at IH
            rw [if_neg w0]
            exact IH
          · rw [if_neg w0, if_pos q] at IH
            rw [if_neg w0]
            exact IH
          · rw [if_pos w0] at IH
            rw [if_pos w0]
            exact IH
        | succ g ih2 =>
          intro b h2 bs hb hl j2 hB
          have hl4 := zle_lt hl hS
          obtain ⟨p, hp, ep⟩ := plI_in (drN bs.1)
          refine wX3_sumOfRaids_39 ?_
          refine br_f (nI_ge (a := b) (b := 3) (by omega) (by decide)) ?_
          rw [show (((bs.1 * 1103515245 + 12345) &&& 2147483647) / 65536) - (((bs.1 * 1103515245 + 12345) &&& 2147483647) / 65536) / 12 * 12 = nI p from ep, zsd_p hl4 hp, nI_1]
          refine zC_mono (jX3_leftOf d j2 (zle_sd hl4 hl)) ?_
          rintro r h3 ⟨rfl, j3, _⟩
          refine ⟨_, rfl, ?_⟩
          refine ih2 (b + 1) h3 (drN bs.1, stl e (zsd bs.2 (2 ^ p))) (by omega) (zle_tr (stl_le e (zsd_lt hl4)) (zle_sd hl4 hl)) j3 ?_
          rw [← hB, bombF_s, bomb1_p hp ep]
      exact inner 3 0 h1 (st.1, S) (by omega) (zle_rf S) j1 rfl
  have := key n 0 h (z, 0, 0) (by omega) j rfl
  have e0 : (if w = 0 then ((z, 0, 0) : Int32 × Int32 × Int32).2.1 else ((z, 0, 0) : Int32 × Int32 × Int32).2.2) = 0 := by split <;> rfl
  rw [e0] at this
  exact this
theorem pX11_raids {G : ZG} (d : Nat) {h : ZH} {S : Nat} {c e : ZQ5} {N : ZN} (j : JX h S c e N) (n z w : Int32) : zC G (d + 6) mX11_raids [zr 0 0, zi n, zi z, zi w] h (zJ S c e N (raidV e S n z w)) := by
  refine zC_of (by decide +kernel) (Nat.le_of_ble_eq_true rfl) (L := [zr 0 0, zi n, zi z, zi w]) ⟨rfl, ⟨rfl, ⟨rfl, ⟨rfl, trivial⟩⟩⟩⟩ ?_
  refine wX11_raids_0 ?_
  unfold raidV
  refine ⟨fun a => ⟨by rw [if_neg (fun q => (fa_of_lt a).2.1 q.1)], j⟩, fun a => ⟨fun b => ⟨by rw [if_neg (fun q => (fa_of_lt b).2.1 q.2)], j⟩, fun b => ⟨fun q => ⟨fun w1 => ?_, fun w1 => ?_⟩, fun q => ⟨?_, j⟩⟩⟩⟩
  · obtain ⟨m, hm, rfl⟩ := zin20 ⟨fa_of_nlt a, fa_of_nlt b⟩
    rw [if_pos ⟨fa_of_nlt a, fa_of_nlt b⟩, if_pos q, if_pos (n1_0 q w1), nI_cl (show m ≤ 4096 by omega)]
    refine zC_mono (jX3_sumOfRaids d j hm z 0) ?_
    rintro r h' ⟨rfl, j'⟩
    exact ⟨_, rfl, rfl, j'⟩
  · obtain ⟨m, hm, rfl⟩ := zin20 ⟨fa_of_nlt a, fa_of_nlt b⟩
    rw [if_pos ⟨fa_of_nlt a, fa_of_nlt b⟩, if_pos q, if_neg (by rw [w1]; decide), nI_cl (show m ≤ 4096 by omega)]
    refine zC_mono (jX3_sumOfRaids d j hm z 1) ?_
    rintro r h' ⟨rfl, j'⟩
    exact ⟨_, rfl, rfl, j'⟩
  · rw [if_pos ⟨fa_of_nlt a, fa_of_nlt b⟩, if_neg q]
def eV (k j : Nat) : Bool := eS k j || decide (k = 5 ∧ j ≠ 3)
theorem eA_V {k j : Nat} (h : eA k j = false) : eV k j = false := by
  unfold eV
  rw [eA_S h]
  unfold eA at h
  simp only [Bool.or_eq_false_iff, decide_eq_false_iff_not, Bool.false_or] at h ⊢
  omega
theorem JX.fV {h h' : ZH} {S : Nat} {c e : ZQ5} {N : ZN} (j : JX h S c e N) (a : zfx eV h h') : JX h' S c e N := j.fm a (fun _ _ => eA_V) (fun _ => by unfold eV eS; simp) (fun _ => by unfold eV eS; simp)
theorem JX.s5 {h : ZH} {S : Nat} {c e : ZQ5} {N : ZN} (j : JX h S c e N) {k : Nat} (v : Int32) (hk : k ≠ 3) : JX (zs1 h 5 0 k v) S c e N := j.fV (zfx.s1 eV h v (by unfold eV; simp [hk]))
theorem jX12_drawn {G : ZG} (d : Nat) {h : ZH} {S : Nat} {c e : ZQ5} {N : ZN} (j : JX h S c e N) : zC G (d + 1) mX12_drawn [zr 5 0, zi 12] h (fun r h' => r = some (zi (plI (drN (h.1 5 0 14)))) ∧ h'.1 5 0 14 = drN (h.1 5 0 14) ∧ JX h' S c e N) := by
  refine zC_of (by decide +kernel) (Nat.le_of_ble_eq_true rfl) (L := [zr 5 0, zi 12]) ⟨rfl, ⟨rfl, trivial⟩⟩ ?_
  refine wX12_drawn_0 ?_
  intro h1 e1
  have q : h1.1 5 0 14 = drN (h.1 5 0 14) := by rw [e1, zs1_at, if_pos ⟨rfl, rfl, rfl⟩]; rfl
  refine ⟨by decide, ?_, q, ?_⟩
  · rw [q]; rfl
  · rw [e1]
    exact j.s5 _ (by decide)
set_option maxHeartbeats 1000000 in
theorem pX12_raids {G : ZG} (d : Nat) {h : ZH} {S : Nat} {c e : ZQ5} {N : ZN} (j : JX h S c e N) (n z w : Int32) : zC G (d + 7) mX12_raids [zr 5 0, zi n, zi z, zi w] h (zJ S c e N (raidV e S n z w)) := by
  refine zC_of (by decide +kernel) (Nat.le_of_ble_eq_true rfl) (L := [zr 5 0, zi n, zi z, zi w, zu, zu, zu, zu, zu, zu]) ⟨rfl, ⟨rfl, ⟨rfl, ⟨rfl, trivial⟩⟩⟩⟩ ?_
  refine wX12_raids_0 ?_
  unfold raidV
  refine ⟨fun a => ⟨by rw [if_neg a], j⟩, fun a => ⟨fun q => ?_, fun q => ⟨by rw [if_pos a, if_neg q], j⟩⟩⟩
  obtain ⟨n, hn, rfl⟩ := zin20 a
  rw [if_pos a, if_pos q, nI_cl (show n ≤ 4096 by omega)]
  intro h0 e0
  have j0 : JX h0 S c e N := by rw [e0]; exact j.s5 _ (by decide)
  have s0 : h0.1 5 0 14 = z := by rw [e0, zs1_at, if_pos ⟨rfl, rfl, rfl⟩]
  rw [j0.m0, z15]
  have hS := j.lt
  let F := raidF e S n (z, 0, 0)
  have key : ∀ (f m : Nat) (h1 : ZH) (st : Int32 × Int32 × Int32), f + m = n → JX h1 S c e N → h1.1 5 0 14 = st.1 → raidF e S f st = F → zT G (d + 7) mX12_raids 46 [zr 5 0, zi (nI n), zi z, zi w, zi (nI (S &&& 15)), zi st.2.1, zi st.2.2, zi (nI m), zu, zu] [] h1 (zJ S c e N (if w = 0 then F.2.1 else F.2.2)) := by
    intro f
    induction f with
    | zero =>
      intro m h1 st hm j1 hs hF
      have em : m = n := by omega
      subst em
      refine wX12_raids_46 ?_
      have hF' : st = F := hF
      rw [hF']
      exact br_t ((nI_leb (by omega) (by omega)).mpr (Nat.le_refl _)) ⟨fun q => ⟨by rw [if_neg q], j1⟩, fun q => ⟨by rw [if_pos q], j1⟩⟩
    | succ f ih =>
      intro m h1 st hm j1 hs hF
      refine wX12_raids_46 ?_
      refine br_f (fun q => by have := (nI_leb (by omega) (by omega)).mp q; omega) ?_
      rw [j1.m0]
      rw [raidF_s] at hF
      have inner : ∀ (g b : Nat) (h2 : ZH) (bs : Int32 × Nat), g + b = 3 → zle bs.2 S → JX h2 S c e N → h2.1 5 0 14 = bs.1 → bombF e g bs = bombF e 3 (st.1, S) → zT G (d + 7) mX12_raids 63 [zr 5 0, zi (nI n), zi z, zi w, zi (nI (S &&& 15)), zi st.2.1, zi st.2.2, zi (nI m), zi (nI bs.2), zi (nI b)] [] h2 (zJ S c e N (if w = 0 then F.2.1 else F.2.2)) := by
        intro g
        induction g with
        | zero =>
          intro b h2 bs hb hl j2 hz hB
          have eb : b = 3 := by omega
          subst eb
          have hB' : bs = bombF e 3 (st.1, S) := hB
          refine wX12_raids_63 ?_
          refine br_t (by decide) ?_
          have IH := ih (m + 1) h2 _ (by omega) j2 (by rw [hz, hB']) hF
          rw [← hB'] at IH
          have hl4 := zle_lt hl hS
          rw [bitsI_nI hl4, nI_1, zi_not (show S &&& 15 < 4096 from zand_lt hS), zn0 (zsd_lt (zand_lt hS)), zadd0]
          refine ⟨fun q => ?_, fun q => ?_⟩
          · rw [if_neg q] at IH
            exact IH
          · rw [if_pos q] at IH
            exact IH
        | succ g ih2 =>
          intro b h2 bs hb hl j2 hz hB
          have hl4 := zle_lt hl hS
          obtain ⟨p, hp, ep⟩ := plI_in (drN bs.1)
          refine wX12_raids_63 ?_
          refine br_f (nI_ge (a := b) (b := 3) (by omega) (by decide)) ?_
          refine zC_mono (jX12_drawn (d + 5) j2) ?_
          rintro r h3 ⟨rfl, q3, j3⟩
          refine ⟨_, rfl, ?_⟩
          rw [hz, ep, zi_sh hp, nI_1]
          rw [hz] at q3
          refine zC_mono (jX12_leftWithout d j3 hl4) ?_
          rintro r h4 ⟨rfl, _, j4, f4⟩
          refine ⟨_, rfl, ?_⟩
          refine ih2 (b + 1) h4 (drN bs.1, stl e (zsd bs.2 (2 ^ p))) (by omega) (zle_tr (stl_le e (zsd_lt hl4)) (zle_sd hl4 hl)) j4 ?_ ?_
          · rw [(f4 5 0 14 (by decide)).1, q3]
          · rw [← hB, bombF_s, bomb1_p hp ep]
      exact inner 3 0 h1 (st.1, S) (by omega) (zle_rf S) j1 hs rfl
  exact key n 0 h0 (z, 0, 0) (by omega) j0 s0 rfl
