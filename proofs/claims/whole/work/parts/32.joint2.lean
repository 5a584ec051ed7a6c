/-! ===== the two sides together: what holds between calls ===== -/
def IM (h : ZH) : Prop := (h.1 0 0 6 = 0 ∧ h.1 5 0 3 = 0) ∨ (h.1 0 0 6 = 1 ∧ h.1 5 0 3 = 1 ∧ ∃ S P F, HB h 1 31 S P F)
/-- a shelf: what it holds (0 nothing, 1 a kind, 2 a row) -/
def SHd (h : ZH) (d : Nat) : Prop := ∃ n : Nat, n ≤ 100 ∧ h.1 3 d 4 = nI n ∧
  ((h.1 3 d 0 = 0 ∧ h.1 38 0 d = 0) ∨
   (h.1 3 d 0 = 1 ∧ h.1 38 0 d = 1 ∧ ∃ k f : Nat, k < 8 ∧ f < 10 ∧ h.1 3 d 1 = nI k ∧ h.1 3 d 2 = nI f ∧ h.1 39 0 d = nI k ∧ h.1 40 0 d = nI f) ∨
   (h.1 3 d 0 = 2 ∧ h.1 38 0 d = 2 ∧ ∃ s : Nat, s < 3 ∧ h.1 3 d 3 = nI s ∧ h.1 41 0 d = nI s ∧ h.1 42 0 d = nI n ∧ ∀ j, j < 100 → h.1 16 d j = h.1 43 0 (100 * d + j) ∧ (s = 0 → h.1 16 d j = (h.1 16 d j).toInt8.toInt32)))
def SH (h : ZH) : Prop := ∀ d, d < 8 → SHd h d
/-- how often the hall changed; the heap looked at first -/
abbrev ZN : Type := Nat × ZH
/-- all that is written for a while only -/
def eA (k j : Nat) : Bool := (decide (k = 15) || decide (17 ≤ k ∧ k ≤ 20)) || (decide (33 ≤ k ∧ k ≤ 37) || (decide (k = 5 ∧ j ≠ 3) || decide (k = 1 ∧ j = 5)))
def JX (h : ZH) (S : Nat) (c e : ZQ5) (N : ZN) : Prop := HB h 0 30 S (cP c) (cF c) ∧ RC0 h S c N.1 ∧ RM0 h S e ∧ IM h ∧ SH h ∧ zfx eA N.2 h
theorem eA_no {k j : Nat} (h : (2 ≤ k ∧ k ≤ 14 ∧ k ≠ 5) ∨ k = 0 ∨ k = 16 ∨ (21 ≤ k ∧ k ≤ 32) ∨ 38 ≤ k ∨ (k = 5 ∧ j = 3)) : eA k j = false := by
  unfold eA
  simp only [Bool.or_eq_false_iff, decide_eq_false_iff_not]
  omega
theorem zfx.all {ex : Nat → Nat → Bool} {h h' : ZH} (a : zfx ex h h') (hs : ∀ k j, eA k j = false → ex k j = false) : zfx eA h h' := a.mono hs
theorem eA_F {k j : Nat} (h : eA k j = false) : eF k j = false := by
  unfold eA at h
  unfold eF
  simp only [Bool.or_eq_false_iff, decide_eq_false_iff_not] at h ⊢
  omega
theorem eA_L {k j : Nat} (h : eA k j = false) : eL k j = false := eF_L (eA_F h)
theorem eA_S {k j : Nat} (h : eA k j = false) : eS k j = false := by
  unfold eA at h
  unfold eS
  simp only [Bool.or_eq_false_iff, decide_eq_false_iff_not] at h ⊢
  omega
theorem HB.fr {h h' : ZH} {i r S P F : Nat} (b : HB h i r S P F) (a2 : ∀ j, 6 ≤ j → j ≤ 8 → h'.1 2 i j = h.1 2 i j) (ak : ∀ k, 10 ≤ k → k ≤ 14 → ∀ p, p < 12 → h'.1 k i p = h.1 k i p) (ar : h'.1 r 0 = h.1 r 0) : HB h' i r S P F := by
  obtain ⟨b1, b2, b3, b4, b5, b6, b7, b8, b9, b10⟩ := b
  refine ⟨b1, b2, b3, by rw [a2 6 (by decide) (by decide)]; exact b4, by rw [a2 7 (by decide) (by decide)]; exact b5, by rw [a2 8 (by decide) (by decide)]; exact b6, by rw [ar]; exact b7, by rw [ar]; exact b8, ?_, ?_⟩
  · intro p hp hb
    obtain ⟨k, f, hk, hf, q1, q2, q3, q4, q5, q6, q7, q8⟩ := b9 p hp hb
    exact ⟨k, f, hk, hf, by rw [ar]; exact q1, by rw [ar]; exact q2, by rw [ak 10 (by decide) (by decide) p hp]; exact q3, by rw [ak 11 (by decide) (by decide) p hp]; exact q4, by rw [ak 12 (by decide) (by decide) p hp]; exact q5, by rw [ak 13 (by decide) (by decide) p hp]; exact q6, by rw [ak 14 (by decide) (by decide) p hp]; exact q7, q8⟩
  · unfold cfgR at b10 ⊢
    rw [ar]
    exact b10
theorem SHd.fr {h h' : ZH} {d : Nat} (s : SHd h d) (a3 : h'.1 3 d = h.1 3 d) (a16 : h'.1 16 d = h.1 16 d) (am : ∀ k, 38 ≤ k → k ≤ 43 → h'.1 k 0 = h.1 k 0) : SHd h' d := by
  unfold SHd at s ⊢
  rw [a3, a16, am 38 (by decide) (by decide), am 39 (by decide) (by decide), am 40 (by decide) (by decide), am 41 (by decide) (by decide), am 42 (by decide) (by decide), am 43 (by decide) (by decide)]
  exact s
theorem SH.fx {h h' : ZH} (s : SH h) (a : zfx eA h h') : SH h' := fun d hd => (s d hd).fr (a.row d fun _ => eA_no (by omega)) (a.row d fun _ => eA_no (by omega)) (fun _ _ _ => a.row 0 fun _ => eA_no (by omega))
theorem HB.fx {h h' : ZH} {i r S P F : Nat} (b : HB h i r S P F) (hr : 30 ≤ r ∧ r ≤ 32) (a : zfx eA h h') : HB h' i r S P F := b.fr (fun j _ _ => (a 2 i j (eA_no (by omega))).1) (fun k _ _ p _ => (a k i p (eA_no (by omega))).1) (a.row 0 fun _ => eA_no (by omega))
theorem IM.fx {h h' : ZH} (m : IM h) (a : zfx eA h h') : IM h' := by
  unfold IM at m ⊢
  rw [(a 0 0 6 (eA_no (by omega))).1, (a 5 0 3 (eA_no (by omega))).1]
  rcases m with q | ⟨q1, q2, S, P, F, q3⟩
  · exact Or.inl q
  · exact Or.inr ⟨q1, q2, S, P, F, q3.fx (by decide) a⟩
/-- after looking ahead all is as before -/
theorem JX.fx {h h' : ZH} {S : Nat} {c e : ZQ5} {N : ZN} (j : JX h S c e N) (a : zfx eA h h') (r : RC0 h' S c N.1) : JX h' S c e N := ⟨j.1.fx (by decide) a, r, j.2.2.1.fx a fun _ => eA_no (by omega), j.2.2.2.1.fx a, j.2.2.2.2.1.fx a, j.2.2.2.2.2.tr a⟩
theorem JX.sh {h : ZH} {S : Nat} {c e : ZQ5} {N : ZN} (j : JX h S c e N) : SH h := j.2.2.2.2.1
theorem JX.sn {h : ZH} {S : Nat} {c e : ZQ5} {N : ZN} (j : JX h S c e N) : zfx eA N.2 h := j.2.2.2.2.2
theorem JX.c {h : ZH} {S : Nat} {c e : ZQ5} {N : ZN} (j : JX h S c e N) : RC0 h S c N.1 := j.2.1
theorem JX.m {h : ZH} {S : Nat} {c e : ZQ5} {N : ZN} (j : JX h S c e N) : RM0 h S e := j.2.2.1
theorem JX.lt {h : ZH} {S : Nat} {c e : ZQ5} {N : ZN} (j : JX h S c e N) : S < 4096 := j.1.1
/-- the model looks ahead -/
theorem JX.fm {ex : Nat → Nat → Bool} {h h' : ZH} {S : Nat} {c e : ZQ5} {N : ZN} (j : JX h S c e N) (a : zfx ex h h') (hs : ∀ k j, eA k j = false → ex k j = false) (h1 : ∀ j, ex 1 j = false) (h17 : ∀ j, ex 17 j = false) : JX h' S c e N := by
  have a' := a.all hs
  refine j.fx a' ?_
  exact j.c.fx a (h1 5) (fun j => hs 2 j (eA_no (by omega))) (fun j => hs 12 j (eA_no (by omega))) (fun j => hs 13 j (eA_no (by omega))) (fun j => hs 14 j (eA_no (by omega))) h17
theorem JX.fS {h h' : ZH} {S : Nat} {c e : ZQ5} {N : ZN} (j : JX h S c e N) (a : zfx eS h h') : JX h' S c e N := j.fm a (fun _ _ => eA_S) (fun _ => by unfold eS; simp) (fun _ => by unfold eS; simp)
theorem JX.fL {h h' : ZH} {S : Nat} {c e : ZQ5} {N : ZN} (j : JX h S c e N) (a : zfx eL h h') : JX h' S c e N := j.fm a (fun _ _ => eA_L) (fun _ => by unfold eL; simp) (fun _ => by unfold eL; simp)
theorem JX.eq {h : ZH} {S : Nat} {c e : ZQ5} {N : ZN} (j : JX h S c e N) : cEq c e S := by
  have w := j.1.2.2.2.2.2.2.2.2.1.eq (P := cP c)
  rw [j.c.2.2.2.2.2.2.1] at w
  have hm := j.m
  have e8 := j.1.2.2.2.2.2.2.2.1
  have : cP c = cP e := by
    rw [hm.2.2.2.1] at e8
    exact ((zi_inj hm.2.1 j.c.2.1).mp e8).symm
  rw [this, hm.2.2.2.2] at w
  exact w
theorem JX.stlE {h : ZH} {S T : Nat} {c e : ZQ5} {N : ZN} (j : JX h S c e N) (hT : zle T S) : stl c T = stl e T := stl_eq (zle_lt hT j.lt) (j.eq.sub hT)
theorem JX.ldsE {h : ZH} {S T : Nat} {c e : ZQ5} {N : ZN} (j : JX h S c e N) (hT : zle T S) : zlds c T = zlds e T := zlds_eq (j.eq.sub hT)
theorem JX.fix {h : ZH} {S : Nat} {c e : ZQ5} {N : ZN} (j : JX h S c e N) : zlz e S = 0 := by
  have := j.1.2.2.2.2.2.2.2.2.2
  have q := zlz_eq j.lt (cfgH_R h (cP c) S)
  rw [this, j.eq.1, j.m.2.2.2.2] at q
  exact q
theorem JX.setl {h : ZH} {S : Nat} {c e : ZQ5} {N : ZN} (j : JX h S c e N) : stl e S = S := stl_of e j.fix
/-- a stone's numbers -/
theorem JX.at {h : ZH} {S p : Nat} {c e : ZQ5} {N : ZN} (j : JX h S c e N) (hp : p < 12) (hb : S.testBit p = true) : ∃ k f : Nat, k < 8 ∧ f < 10 ∧ kindI h (nI p) = nI k ∧ figI h (nI p) = nI f ∧ h.1 10 0 p = nI k ∧ h.1 11 0 p = nI f ∧ h.1 12 0 p = wgtI (nI k) (nI f) ∧ h.1 13 0 p = brsI (nI k) (nI f) ∧ cW e p = wgtI (nI k) (nI f) ∧ cB e p = brsI (nI k) (nI f) := by
  obtain ⟨k, f, hk, hf, a1, a2, a3, a4, a5, a6, a7, a8⟩ := j.1.2.2.2.2.2.2.2.2.1 p hp hb
  have x1 : kindI h (nI p) = nI k := by rw [kindI_n h hp]; exact a1
  have x2 : figI h (nI p) = nI f := by rw [figI_n h hp]; exact a2
  refine ⟨k, f, hk, hf, x1, x2, a3, a4, a5, a6, ?_, ?_⟩
  · rw [← j.m.2.2.2.2]
    show wgtI (kindI h (nI p)) (figI h (nI p)) = _
    rw [x1, x2]
  · rw [← j.m.2.2.2.2]
    show brsI (kindI h (nI p)) (figI h (nI p)) = _
    rw [x1, x2]
/-! looking ahead, the class's way and the model's -/
theorem zsd_p {S p : Nat} (hS : S < 4096) (hp : p < 12) : nI S &&& (((1 : Int32) <<< (nI p &&& 31)) ^^^ (-1)) = nI (zsd S (2 ^ p)) := by
  rw [zi_sh hp, zi_not hS]
theorem jX3_leftOf {G : ZG} (d : Nat) {h : ZH} {S T : Nat} {c e : ZQ5} {N : ZN} (j : JX h S c e N) (hT : zle T S) : zC G (d + 4) mX3_leftOf [zr 1 0, zi (nI T)] h (fun r h' => r = some (zi (nI (stl e T))) ∧ JX h' S c e N ∧ zfx eF h h') := by
  refine zC_mono (sX3_leftOf d j.c (zle_lt hT j.lt)) ?_
  rintro r h' ⟨rfl, r', f⟩
  exact ⟨by rw [j.stlE hT], j.fx (f.all fun _ _ => eA_F) r', f⟩
theorem jX12_settled {G : ZG} (d : Nat) {h : ZH} {S T : Nat} {c e : ZQ5} {N : ZN} (j : JX h S c e N) (hT : T < 4096) : zC G (d + 5) mX12_settled [zr 5 0, zi (nI T)] h (fun r h' => r = some (zi (nI (stl e T))) ∧ h'.1 5 0 5 = nI (stp e T) ∧ JX h' S c e N ∧ zfx eS h h') := by
  refine zC_mono (sX12_settled d j.m hT) ?_
  rintro r h' ⟨rfl, q, f⟩
  exact ⟨rfl, q, j.fS f, f⟩
theorem jX12_leftWithout {G : ZG} (d : Nat) {h : ZH} {S T U : Nat} {c e : ZQ5} {N : ZN} (j : JX h S c e N) (hT : T < 4096) : zC G (d + 6) mX12_leftWithout [zr 5 0, zi (nI T), zi (nI U)] h (fun r h' => r = some (zi (nI (stl e (zsd T U)))) ∧ h'.1 5 0 5 = nI (stp e (zsd T U)) ∧ JX h' S c e N ∧ zfx eS h h') := by
  refine zC_of (by decide +kernel) (Nat.le_of_ble_eq_true rfl) (L := [zr 5 0, zi (nI T), zi (nI U)]) ⟨rfl, ⟨rfl, ⟨rfl, trivial⟩⟩⟩ ?_
  refine wX12_leftWithout_0 ?_
  rw [zi_not hT]
  refine zC_mono (jX12_settled d j (zsd_lt hT)) ?_
  rintro r h' ⟨rfl, q⟩
  exact ⟨_, rfl, rfl, q⟩
/-- how many fall when some are taken out -/
def fallN (e : ZQ5) (S U : Nat) : Nat := zpc (zsd S U) - zpc (stl e (zsd S U))
theorem jX12_fallsOf {G : ZG} (d : Nat) {h : ZH} {S T U : Nat} {c e : ZQ5} {N : ZN} (j : JX h S c e N) (hT : T < 4096) : zC G (d + 7) mX12_fallsOf [zr 5 0, zi (nI T), zi (nI U)] h (fun r h' => r = some (zi (nI (fallN e T U))) ∧ JX h' S c e N ∧ zfx eS h h') := by
  refine zC_of (by decide +kernel) (Nat.le_of_ble_eq_true rfl) (L := [zr 5 0, zi (nI T), zi (nI U)]) ⟨rfl, ⟨rfl, ⟨rfl, trivial⟩⟩⟩ ?_
  refine wX12_fallsOf_0 ?_
  refine zC_mono (jX12_leftWithout d j hT) ?_
  rintro r h' ⟨rfl, _, q⟩
  refine ⟨_, rfl, ?_, q⟩
  rw [zi_not hT, bitsI_nI (zsd_lt hT), bitsI_nI (stl_lt e (zsd_lt hT)), nI_sub (zpc_mono (stl_le e (zsd_lt hT)))]
  rfl
theorem fallN_lt (e : ZQ5) (S U : Nat) : fallN e S U ≤ 12 := by
  unfold fallN
  have := zpc_le (zsd S U)
  omega
theorem fallN_0 {e : ZQ5} {S U : Nat} (hS : S < 4096) : fallN e S U = 0 ↔ stl e (zsd S U) = zsd S U := by
  have hle := stl_le e (zsd_lt (T := U) hS)
  unfold fallN
  constructor
  · intro h
    apply Classical.byContradiction
    intro q
    have := zpc_lt hle (stl_lt e (zsd_lt hS)) (zsd_lt hS) q
    omega
  · intro h
    rw [h]
    omega
theorem fallN_zi {e : ZQ5} {S U : Nat} (hS : S < 4096) : nI (fallN e S U) = 0 ↔ stl e (zsd S U) = zsd S U := by
  rw [zi_0, zi_inj (by have := fallN_lt e S U; omega) (by decide), fallN_0 hS]
/-- the safe ones -/
def safeN (e : ZQ5) (S : Nat) : Nat := zmk (fun p => S.testBit p && decide (stl e (zsd S (2 ^ p)) = zsd S (2 ^ p))) 12
theorem zor_0 (x : Int32) : x ||| 0 = x := Int32.or_zero
theorem jX12_safeOf {G : ZG} (d : Nat) {h : ZH} {S T : Nat} {c e : ZQ5} {N : ZN} (j : JX h S c e N) (hT : T < 4096) : zC G (d + 8) mX12_safeOf [zr 5 0, zi (nI T)] h (fun r h' => r = some (zi (nI (safeN e T))) ∧ JX h' S c e N ∧ zfx eS h h') := by
  refine zC_of (by decide +kernel) (Nat.le_of_ble_eq_true rfl) (L := [zr 5 0, zi (nI T), zu, zu]) ⟨rfl, ⟨rfl, trivial⟩⟩ ?_
  refine wX12_safeOf_0 ?_
  have key : ∀ (f m : Nat), f + m = 12 → ∀ h1 : ZH, JX h1 S c e N → zfx eS h h1 → zT G (d + 8) mX12_safeOf 4 [zr 5 0, zi (nI T), zi (nI (zmk (fun p => T.testBit p && decide (stl e (zsd T (2 ^ p)) = zsd T (2 ^ p))) m)), zi (nI m)] [] h1 (fun r h' => r = some (zi (nI (safeN e T))) ∧ JX h' S c e N ∧ zfx eS h h') := by
    intro f
    induction f with
    | zero =>
      intro m hm h1 j1 f1
      have e : m = 12 := by omega
      subst e
      refine wX12_safeOf_4 ?_
      exact br_t (by decide) ⟨rfl, j1, f1⟩
    | succ f ih =>
      intro m hm h1 j1 f1
      have hm' : m < 12 := by omega
      refine wX12_safeOf_4 ?_
      refine br_f (nI_ge (a := m) (b := 12) (by omega) (by decide)) ?_
      rw [hasI_iff hT (show m < 32 by omega), zor_0, nI_1]
      refine ⟨fun t => ?_, fun t => ?_⟩
      · have := ih (m + 1) (by omega) h1 j1 f1
        rw [zmk_no _ (by simp [t])] at this
        exact this
      · rw [zi_sh hm']
        refine zC_mono (jX12_fallsOf (U := 2 ^ m) d j1 hT) ?_
        rintro r h2 ⟨rfl, j2, f2⟩
        refine ⟨_, rfl, ?_⟩
        rw [fallN_zi hT]
        have IH := ih (m + 1) (by omega) h2 j2 (f1.tr f2)
        refine ⟨fun t2 => ?_, fun t2 => ?_⟩
        · rw [zmk_no _ (by simp [t2])] at IH
          exact IH
        · rw [← zi_mk _ hm' (by simp [t, t2]), zi_sh hm'] at IH
          exact IH
  exact key 12 0 (by omega) h j (zfx.rf _ _)
