/-! ===== props wanted, both sides ===== -/
theorem safeN_cong {e g : ZQ5} {S : Nat} (hS : S < 4096) (q : cEq e g S) : safeN e S = safeN g S := zmk_congr fun p _ => by
  rw [stl_eq (zsd_lt hS) (q.sub (zsd_le hS))]
theorem safeN_all {e : ZQ5} {S : Nat} (hS : S < 4096) : safeN e S = S ↔ ∀ p, p < 12 → S.testBit p = true → zlz e (zsd S (2 ^ p)) = 0 := by
  constructor
  · intro h p hp hb
    have := congrArg (fun n => Nat.testBit n p) h
    simp only [safeN, zms_bit _ hp, hb, Bool.true_and, decide_eq_true_eq] at this
    exact (stl_iff e (zsd_lt hS)).mp this
  · intro h
    refine zs_ext (zms_lt _) hS fun p hp => ?_
    rw [safeN, zms_bit _ hp]
    by_cases hb : S.testBit p = true
    · rw [hb, (stl_iff e (zsd_lt hS)).mpr (h p hp hb)]
      simp
    · rw [eq_false_of_ne_true hb]; rfl
def goodP (e : ZQ5) (S T : Nat) : Bool := (decide (T &&& cP e = 0) && decide (zpc T ≤ 4)) && decide (safeN (cWith e (cP e ||| T)) S = S)
/-- the class asks those alone that are not safe now -/
def arF (e : ZQ5) (S U P' : Nat) : Nat → Nat → Bool
  | 0, _ => true
  | f + 1, p => (!U.testBit p || decide (zlz (cWith e P') (zsd S (2 ^ p)) = 0)) && arF e S U P' f (p + 1)
theorem arF_all {e : ZQ5} {S U P' : Nat} : ∀ (f p : Nat), p + f = 12 → (arF e S U P' f p = true ↔ ∀ q, p ≤ q → q < 12 → U.testBit q = true → zlz (cWith e P') (zsd S (2 ^ q)) = 0) := by
  intro f
  induction f with
  | zero => intro p hp; exact ⟨fun _ q h1 h2 => by omega, fun _ => rfl⟩
  | succ f ih =>
    intro p hp
    rw [arF, Bool.and_eq_true, ih (p + 1) (by omega), Bool.or_eq_true, decide_eq_true_eq]
    constructor
    · rintro ⟨h1, h2⟩ q q1 q2 qb
      by_cases z : q = p
      · rw [z] at qb ⊢
        rcases h1 with w | w
        · rw [qb] at w; cases w
        · exact w
      · exact h2 q (by omega) q2 qb
    · intro h
      refine ⟨?_, fun q q1 q2 qb => h q (by omega) q2 qb⟩
      by_cases b : U.testBit p = true
      · exact Or.inr (h p (Nat.le_refl _) (by omega) b)
      · left; rw [eq_false_of_ne_true b]; rfl
theorem good_ar {e : ZQ5} {S T : Nat} (hS : S < 4096) (hw : wOk e S) : arF e S (zsd S (safeN e S)) (cP e ||| T) 12 0 = true ↔ safeN (cWith e (cP e ||| T)) S = S := by
  rw [arF_all 12 0 (by decide), safeN_all hS]
  have hP : zle (cP e) (cP e ||| T) := fun p hp => by rw [Nat.testBit_or, hp]; rfl
  constructor
  · intro h p hp hb
    by_cases s : (safeN e S).testBit p = true
    · rw [safeN, zms_bit _ hp, hb, Bool.true_and, decide_eq_true_eq] at s
      exact zlz_mono hP (hw.sub (zsd_le hS)) ((stl_iff e (zsd_lt hS)).mp s)
    · exact h p (Nat.zero_le _) hp (by rw [zsd_bit hS, hb, eq_false_of_ne_true s]; rfl)
  · intro h p _ hp hb
    rw [zsd_bit hS] at hb
    simp only [Bool.and_eq_true] at hb
    exact h p hp hb.1
theorem cWith_eq {c e : ZQ5} {S : Nat} (q : cEq c e S) (P' : Nat) : cEq (cWith c P') (cWith e P') S := ⟨rfl, q.2⟩
theorem jX3_areSafe {G : ZG} (d : Nat) {h : ZH} {S U P' : Nat} {c e : ZQ5} {N : ZN} (j : JX h S c e N) (hU : U < 4096) : zC G (d + 3) mX3_areSafe [zr 1 0, zi (nI U), zi (nI P')] h (zJ S c e N (zb (arF e S U P' 12 0 = true))) := by
  refine zC_of (by decide +kernel) (Nat.le_of_ble_eq_true rfl) (L := [zr 1 0, zi (nI U), zi (nI P'), zu, zu]) ⟨rfl, ⟨rfl, ⟨rfl, trivial⟩⟩⟩ ?_
  refine wX3_areSafe_0 ?_
  have hS := j.lt
  have key : ∀ (f m : Nat) (h1 : ZH), f + m = 12 → JX h1 S c e N → arF e S U P' f m = arF e S U P' 12 0 → zT G (d + 3) mX3_areSafe 2 [zr 1 0, zi (nI U), zi (nI P'), zi (nI m), zu] [] h1 (zJ S c e N (zb (arF e S U P' 12 0 = true))) := by
    intro f
    induction f with
    | zero =>
      intro m h1 hm j1 ho
      have em : m = 12 := by omega
      subst em
      refine wX3_areSafe_2 ?_
      refine br_t (by decide) ⟨?_, j1⟩
      rw [← ho, zb_t (show arF e S U P' 0 12 = true from rfl)]
    | succ f ih =>
      intro m h1 hm j1 ho
      have hm' : m < 12 := by omega
      refine wX3_areSafe_2 ?_
      refine br_f (nI_ge (a := m) (b := 12) (by omega) (by decide)) ?_
      rw [zbit0 hU (show m < 32 by omega), j1.st6, zsd_p hS hm', nI_1]
      rw [arF] at ho
      refine ⟨fun b => ?_, fun b => ?_⟩
      · rw [eq_false_of_ne_true b] at ho
        exact ih (m + 1) h1 (by omega) j1 (by rw [← ho]; simp)
      · have b' := Classical.not_not.mp b
        rw [b'] at ho
        obtain ⟨r1, r2, r3, r4, r5, r6, r7, r8, r9, r10, r11⟩ := j1.c
        refine zC_mono (sX4_looseIn (P := P') d (zsd_lt hS) r6) ?_
        rintro r h2 ⟨rfl, e2⟩
        have j2 : JX h2 S c e N := j1.fL (by rw [e2]; exact zfx.R eL h1 _ (fun _ => by unfold eL; simp))
        have ec : cfgC h1 (cF c) P' = cWith c P' := by
          rw [← r7]
          rfl
        refine ⟨_, rfl, ?_⟩
        rw [ec, zlz_eq (zsd_lt hS) ((cWith_eq j1.eq P').sub (zsd_le hS)), zn0 (zlz_lt _ _)]
        refine ⟨fun q => ih (m + 1) h2 (by omega) j2 ?_, fun q => ⟨?_, j2⟩⟩
        · rw [← ho, decide_eq_true q]; simp
        · rw [← ho, decide_eq_false q]
          rfl
  exact key 12 0 h (by omega) j rfl
theorem n794 {i : Nat} (hi : i ≤ 794) : (794 : Int32) ≤ nI i ↔ i = 794 := by
  rw [show (794 : Int32) = nI 794 from by decide, nI_leb (by omega) (by omega)]
  omega
theorem pX11_propsWanted {G : ZG} (d : Nat) {h : ZH} {S : Nat} {c e : ZQ5} {N : ZN} (j : JX h S c e N) : zC G (d + 8) mX11_propsWanted [zr 0 0] h (zJ S c e N (optV (bestN (goodP e S) 4096))) := by
  refine zC_of (by decide +kernel) (Nat.le_of_ble_eq_true rfl) (L := [zr 0 0]) ⟨rfl, trivial⟩ ?_
  refine wX11_propsWanted_0 ?_
  have hS := j.lt
  have hPe : cP c = cP e := j.eq.1
  have hP4 : cP e < 4096 := j.m.2.1
  have fp : zC G (d + 7) mX3_fewestProps [zr 1 0] h (zJ S c e N (optV (bestN (goodP e S) 4096))) := by
    refine zC_of (by decide +kernel) (Nat.le_of_ble_eq_true rfl) (L := [zr 1 0, zu, zu, zu, zu]) ⟨rfl, trivial⟩ ?_
    refine wX3_fewestProps_0 ?_
    rw [j.st6]
    refine zC_mono (jX3_safeOnes d j) ?_
    rintro r h1 ⟨rfl, j1⟩
    refine ⟨_, rfl, ?_⟩
    rw [zi_not hS]
    have key : ∀ (f i : Nat), f + i = 794 → (∀ k, k < i → ¬ goodP e S (seqN k) = true) → ∀ (h2 : ZH), JX h2 S c e N → zT G (d + 7) mX3_fewestProps 19 [zr 1 0, zi (nI (zsd S (safeN e S))), zi (nI (seqN i)), zi (nI i), zu] [] h2 (zJ S c e N (optV (bestN (goodP e S) 4096))) := by
      intro f
      induction f with
      | zero =>
        intro i hi hn h2 j2
        have ei : i = 794 := by omega
        subst ei
        refine wX3_fewestProps_19 ?_
        refine br_t ((n794 (Nat.le_refl _)).mpr rfl) ⟨?_, j2⟩
        rw [seq_none (fun k hk => ?_)]
        · rfl
        · by_cases z : k < 794
          · exact hn k z
          · intro g
            unfold goodP at g
            simp only [Bool.and_eq_true, decide_eq_true_eq] at g
            exact z ((seq_small hk).mp g.1.2)
      | succ f ih =>
        intro i hi hn h2 j2
        have hi' : i ≤ 4095 := by omega
        have sl := seq_lt hi'
        refine wX3_fewestProps_19 ?_
        refine br_f (fun q => by have := (n794 (show i ≤ 794 by omega)).mp q; omega) ?_
        rw [j2.c.P, hPe, zi_and, zn0 (zand_lt sl), zi_or, nI_1, (seq_ok i (by omega)).2.2]
        have next : ∀ h3, JX h3 S c e N → ¬ goodP e S (seqN i) = true → zT G (d + 7) mX3_fewestProps 19 [zr 1 0, zi (nI (zsd S (safeN e S))), zi (nI (seqN (i + 1))), zi (nI (i + 1)), zu] [] h3 (zJ S c e N (optV (bestN (goodP e S) 4096))) := by
          intro h3 j3 g
          refine ih (i + 1) (by omega) (fun k hk => ?_) h3 j3
          by_cases z : k = i
          · rw [z]; exact g
          · exact hn k (by omega)
        refine ⟨fun a => next h2 j2 ?_, fun a => ?_⟩
        · unfold goodP
          intro g
          simp only [Bool.and_eq_true, decide_eq_true_eq] at g
          exact a g.1.1
        · refine zC_mono (jX3_areSafe (d + 3) j2 (zsd_lt hS)) ?_
          rintro r h3 ⟨rfl, j3⟩
          refine ⟨_, rfl, ?_⟩
          rw [zb_eq0, good_ar hS j2.wOk]
          refine ⟨fun b => next h3 j3 ?_, fun b => ⟨?_, j3⟩⟩
          · unfold goodP
            intro g
            simp only [Bool.and_eq_true, decide_eq_true_eq] at g
            exact b g.2
          · have g : goodP e S (seqN i) = true := by
              unfold goodP
              simp only [Bool.and_eq_true, decide_eq_true_eq]
              exact ⟨⟨a, (seq_small hi').mpr (by omega)⟩, Classical.not_not.mp b⟩
            rw [seq_best hi' g hn]
            rfl
    exact key 794 0 (by omega) (fun k hk => absurd hk (Nat.not_lt_zero k)) h1 j1
  refine zC_mono fp ?_
  rintro r h' ⟨rfl, j'⟩
  exact ⟨_, rfl, rfl, j'⟩
def eQ (k i j : Nat) : Bool := eS k j || decide (k = 30 ∧ i = 0 ∧ j = 1)
theorem eQ_S {k i j : Nat} (h : eQ k i j = false) : eS k j = false := by
  unfold eQ at h
  simp only [Bool.or_eq_false_iff] at h
  exact h.1
theorem cWith_cfg {h h2 : ZH} {e : ZQ5} {S P' : Nat} (he : cfgH h (cP e) = e) (a : ∀ j, 2 ≤ j → h2.1 30 0 j = h.1 30 0 j) : cEq (cfgH h2 P') (cWith e P') S := by
  have kk : ∀ p, p < 12 → kindI h2 (nI p) = kindI h (nI p) := fun p hp => by rw [kindI_n h2 hp, kindI_n h hp, a _ (by omega)]
  have ff : ∀ p, p < 12 → figI h2 (nI p) = figI h (nI p) := fun p hp => by rw [figI_n h2 hp, figI_n h hp, a _ (by omega)]
  have e1 : ∀ p, cW e p = wgtI (kindI h (nI p)) (figI h (nI p)) := fun p => by rw [← he]; rfl
  have e2 : ∀ p, cB e p = brsI (kindI h (nI p)) (figI h (nI p)) := fun p => by rw [← he]; rfl
  have e3 : ∀ p, cM e p = mnrI (kindI h (nI p)) := fun p => by rw [← he]; rfl
  have e4 : cF e = zmk (fun p => decide (mnrI (kindI h (nI p)) ≠ 3)) 12 := by rw [← he]; rfl
  refine ⟨rfl, fun p hp _ => ⟨?_, ?_, ?_, ?_⟩⟩
  · show wgtI (kindI h2 (nI p)) (figI h2 (nI p)) = cW e p
    rw [kk p hp, ff p hp, e1]
  · show brsI (kindI h2 (nI p)) (figI h2 (nI p)) = cB e p
    rw [kk p hp, ff p hp, e2]
  · show mnrI (kindI h2 (nI p)) = cM e p
    rw [kk p hp, e3]
  · show (zmk (fun p => decide (mnrI (kindI h2 (nI p)) ≠ 3)) 12).testBit p = (cF e).testBit p
    rw [e4, zms_bit _ hp, zms_bit _ hp, kk p hp]
theorem n4_bits {n : Nat} (hn : n < 4096) : (4 : Int32) < bitsI (nI n) ↔ ¬ zpc n ≤ 4 := by
  rw [bitsI_nI hn]
  have : ∀ v, v ≤ 12 → ((4 : Int32) < nI v ↔ ¬ v ≤ 4) := by decide
  exact this _ (zpc_le n)
set_option maxHeartbeats 1000000 in
theorem pX12_propsWanted {G : ZG} (d : Nat) {h : ZH} {S : Nat} {c e : ZQ5} {N : ZN} (j : JX h S c e N) : zC G (d + 9) mX12_propsWanted [zr 5 0] h (zJ S c e N (optV (bestN (goodP e S) 4096))) := by
  refine zC_of (by decide +kernel) (Nat.le_of_ble_eq_true rfl) (L := [zr 5 0, zu, zu, zu]) ⟨rfl, trivial⟩ ?_
  refine wX12_propsWanted_0 ?_
  have hS := j.lt
  have hP4 : cP e < 4096 := j.m.2.1
  have hP1 : h.1 30 0 1 = nI (cP e) := j.m.2.2.2.1
  rw [hP1]
  have key : ∀ (f n : Nat), f + n = 4096 → ∀ (h1 : ZH), zfz eQ h h1 → (∀ i jj, h1.2 30 i jj = h.2 30 i jj) → zT G (d + 9) mX12_propsWanted 12 [zr 5 0, zi (nI (cP e)), zi (optV (bestN (goodP e S) n)), zi (nI n)] [] h1 (zJ S c e N (optV (bestN (goodP e S) 4096))) := by
    intro f
    induction f with
    | zero =>
      intro n hn h1 f1 g1
      have en : n = 4096 := by omega
      subst en
      refine wX12_propsWanted_12 ?_
      refine br_t ((nI_4096 (Nat.le_refl _)).mpr rfl) ?_
      intro h2 e2
      refine ⟨rfl, j.fS ?_⟩
      intro k i jj q
      by_cases z : k = 30 ∧ i = 0 ∧ jj = 1
      · obtain ⟨rfl, rfl, rfl⟩ := z
        refine ⟨?_, ?_⟩
        · rw [e2, zs1_at, if_pos ⟨rfl, rfl, rfl⟩, hP1]
        · rw [e2]
          exact g1 0 1
      · have fq : eQ k i jj = false := by
          unfold eQ
          rw [q]
          simp [z]
        have := f1 k i jj fq
        rw [e2]
        refine ⟨?_, this.2⟩
        rw [zs1_at, if_neg z]
        exact this.1
    | succ f ih =>
      intro n hn h1 f1 g1
      have hn' : n < 4096 := by omega
      obtain ⟨b1, b2, b3⟩ := best_step (good := goodP e S) hn'
      refine wX12_propsWanted_12 ?_
      refine br_f (fun q => by have := (nI_4096 (show n ≤ 4096 by omega)).mp q; omega) ?_
      rw [zi_and, zn0 (zand_lt hn'), n4_bits hn', nI_1, zi_or]
      have IH := ih (n + 1) (by omega)
      have no : ∀ h3, zfz eQ h h3 → (∀ i jj, h3.2 30 i jj = h.2 30 i jj) → bestN (goodP e S) (n + 1) = bestN (goodP e S) n → zT G (d + 9) mX12_propsWanted 12 [zr 5 0, zi (nI (cP e)), zi (optV (bestN (goodP e S) n)), zi (nI (n + 1))] [] h3 (zJ S c e N (optV (bestN (goodP e S) 4096))) := fun h3 f3 g3 q => by
        have := IH h3 f3 g3
        rw [q] at this
        exact this
      have yes : ∀ h3, zfz eQ h h3 → (∀ i jj, h3.2 30 i jj = h.2 30 i jj) → bestN (goodP e S) (n + 1) = some n → zT G (d + 9) mX12_propsWanted 12 [zr 5 0, zi (nI (cP e)), zi (nI n), zi (nI (n + 1))] [] h3 (zJ S c e N (optV (bestN (goodP e S) 4096))) := fun h3 f3 g3 q => by
        have := IH h3 f3 g3
        rw [q] at this
        exact this
      have gd : goodP e S n = true ↔ (n &&& cP e = 0 ∧ zpc n ≤ 4) ∧ safeN (cWith e (cP e ||| n)) S = S := by
        unfold goodP
        simp
      -- what the model finds with more props
      have ask : ∀ (A : ZH → Prop) (B : ZH → Prop), (¬ safeN (cWith e (cP e ||| n)) S = S → ∀ h3, zfz eQ h h3 → (∀ i jj, h3.2 30 i jj = h.2 30 i jj) → A h3) → (safeN (cWith e (cP e ||| n)) S = S → ∀ h3, zfz eQ h h3 → (∀ i jj, h3.2 30 i jj = h.2 30 i jj) → B h3) → ∀ h2 : ZH, h2 = zs1 h1 30 0 1 (nI (cP e ||| n)) → zC G (d + 8) mX12_safeOf [zr 5 0, zi (h2.1 30 0 0)] h2 (fun r4 h3 => ∃ y5 : Int32, r4 = some (zi y5) ∧ (¬ y5 = h3.1 30 0 0 → A h3) ∧ (y5 = h3.1 30 0 0 → B h3)) := by
        intro A B hA hB h2 e2
        have hn2 : cP e ||| n < 4096 := zor_lt hP4 hn'
        have s30 : ∀ jj, 2 ≤ jj → h2.1 30 0 jj = h.1 30 0 jj := by
          intro jj hj
          rw [e2, zs1_at, if_neg (by omega)]
          refine (f1 30 0 jj ?_).1
          unfold eQ
          rw [eS_no (by decide) (by decide)]
          simp
          omega
        have m0 : h2.1 30 0 0 = nI S := by
          rw [e2, zs1_at, if_neg (by simp)]
          rw [(f1 30 0 0 (by decide)).1]
          exact j.m0
        have q := cWith_cfg (h2 := h2) (S := S) (P' := cP e ||| n) j.m.2.2.2.2 s30
        have r2 : RM0 h2 S (cfgH h2 (cP e ||| n)) := ⟨hS, hn2, m0, by rw [e2, zs1_at, if_pos ⟨rfl, rfl, rfl⟩]; rfl, rfl⟩
        rw [m0]
        refine zC_mono (kX0_safeOf d r2 hS) ?_
        rintro r h3 ⟨rfl, r3, f3⟩
        refine ⟨_, rfl, ?_⟩
        have f23 : zfz eQ h h3 := (f1.tr (by rw [e2]; exact zfz.s1 eQ h1 _ (by decide))).tr (zfz.of f3 fun _ _ _ => eQ_S)
        have g3 : ∀ i jj, h3.2 30 i jj = h.2 30 i jj := fun i jj => by
          rw [(f3 30 i jj (eS_no (by decide) (by decide))).2, e2]
          exact g1 i jj
        rw [r3.2.2.1, safeN_cong hS q, zi_inj (show safeN (cWith e (cP e ||| n)) S < 4096 from zms_lt _) hS]
        exact ⟨fun z => hA z h3 f23 g3, fun z => hB z h3 f23 g3⟩
      refine ⟨fun a => no h1 f1 g1 (b1 fun g => a (gd.mp g).1.1), fun a => ⟨fun b => no h1 f1 g1 (b1 fun g => b (gd.mp g).1.2), fun b => ?_⟩⟩
      have b' := Classical.not_not.mp b
      refine ⟨fun o => ?_, fun o => ⟨fun l => ?_, fun l => ?_⟩⟩
      · exact ask _ _ (fun z h3 f3 g3 => no h3 f3 g3 (b1 fun g => z (gd.mp g).2)) (fun z h3 f3 g3 => yes h3 f3 g3 (b2 (gd.mpr ⟨⟨a, b'⟩, z⟩) o))
      · exact ask _ _ (fun z h3 f3 g3 => no h3 f3 g3 (b1 fun g => z (gd.mp g).2)) (fun z h3 f3 g3 => yes h3 f3 g3 ((b3 (gd.mpr ⟨⟨a, b'⟩, z⟩) o).1 l))
      · by_cases g : goodP e S n = true
        · exact no h1 f1 g1 ((b3 g o).2 l)
        · exact no h1 f1 g1 (b1 g)
  exact key 4096 0 (by omega) h (zfz.rf _ _) (fun _ _ => rfl)
