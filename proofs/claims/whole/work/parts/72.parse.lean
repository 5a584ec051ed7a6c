/-! ===== the text of a hall: its first fault ===== -/
def prs (T : Nat → Nat) (sz : Nat) : Nat → Nat → Nat → Option Nat × Nat
  | 0, _, n => (none, n)
  | f + 1, a, n => match stB T a with
    | some b => (some b, n + 1)
    | none => if a + tdb (T a) + 2 < sz then prs T sz f (a + tdb (T a) + 2) (n + 1) else (none, n + 1)
theorem prs_b {T : Nat → Nat} {sz f a n b : Nat} (h : stB T a = some b) : prs T sz (f + 1) a n = (some b, n + 1) := by rw [prs, h]
theorem prs_n {T : Nat → Nat} {sz f a n : Nat} (h : stB T a = none) : prs T sz (f + 1) a n = if a + tdb (T a) + 2 < sz then prs T sz f (a + tdb (T a) + 2) (n + 1) else (none, n + 1) := by rw [prs, h]
def prsV (o : Option Nat) : Int32 := match o with
  | some b => nI b
  | none => -1
theorem stB_ok {T : Nat → Nat} {a : Nat} (h : stB T a = none) : tdb (T a) ≠ 0 ∧ (∀ i, i < tdb (T a) → tdg (T (a + 1 + i)) = true) ∧ T (a + 1 + tdb (T a)) = 59 := by
  unfold stB at h
  by_cases t0 : tdb (T a) = 0
  · rw [if_pos t0] at h; cases h
  · rw [if_neg t0] at h
    by_cases q : dgs T (a + 1) (tdb (T a)) < tdb (T a)
    · rw [if_pos q] at h; cases h
    · rw [if_neg q] at h
      by_cases z : T (a + 1 + tdb (T a)) = 59
      · refine ⟨t0, ?_, z⟩
        exact dgs_at T _ _ (Nat.le_antisymm (dgs_le T _ _) (Nat.le_of_not_lt q))
      · rw [if_neg z] at h; cases h
theorem tdb_le (t : Nat) : tdb t ≤ 4 := by
  unfold tdb
  split
  · omega
  · split <;> omega
theorem tx_end {h : ZH} {dd sz i : Nat} (e4 : h.1 3 dd 4 = nI sz) (hi : i ≤ 1000) (hs : sz ≤ i) : txC h dd i = 0 := by
  unfold txC shAt
  rw [e4, if_neg (fun z => (fa_of_lt z.2).2.1 (nI_le hs (by omega)))]
  decide
set_option maxHeartbeats 1000000 in
theorem sX11_firstBadByte {G : ZG} (d : Nat) {h : ZH} {dd sz : Nat} {T : Nat → Nat} (hd : dd < 8) (hsz : sz ≤ 100) (e4 : h.1 3 dd 4 = nI sz) (tx : ∀ i, i ≤ 1000 → txC h dd i = T i) : zC G (d + 3) mX11_firstBadByte [zr 3 dd] h (fun r h' => r = some (zi (prsV (prs T sz 101 0 0).1)) ∧ h' = h) := by
  refine zC_of (by decide +kernel) (Nat.le_of_ble_eq_true rfl) (L := [zr 3 dd, zu, zu, zu, zu]) ⟨rfl, trivial⟩ ?_
  refine wX11_firstBadByte_0 hd ?_
  have hz : h.1 3 dd 4 ≤ 100 := by rw [e4]; exact n100 hsz
  have F : ∀ i, i ≤ 1000 → (shAt h dd (nI i) = 59 ↔ T i = 59) ∧ ((48 ≤ shAt h dd (nI i) ∧ shAt h dd (nI i) ≤ 57) ↔ tdg (T i) = true) ∧ dbI (shAt h dd (nI i)) = nI (tdb (T i)) := by
    intro i hi
    have q := tch_is (c := shAt h dd (nI i))
    have e : tch (shAt h dd (nI i)) = T i := tx i hi
    rw [e] at q
    exact ⟨q.1, q.2.2.2.2.1, by rw [tch_db, e]⟩
  have key : ∀ (f a s : Nat), f + s = 101 → s ≤ a → a ≤ 100 → zT G (d + 3) mX11_firstBadByte 4 [zr 3 dd, zi (nI a), zi (nI s), zu, zu] [] h (fun r h' => r = some (zi (prsV (prs T sz f a s).1)) ∧ h' = h) := by
    intro f
    induction f with
    | zero => intro a s h1 h2 h3; omega
    | succ f ih =>
      intro a s hs hsa ha
      refine wX11_firstBadByte_4 hd ?_
      refine br_f (show ¬ (100 : Int32) < nI s from (nI_nlt (b := s) (a := 100) (by omega) (by decide))) ⟨hz, ?_⟩
      rw [(F a (by omega)).2.2]
      have n0 : nI (tdb (T a)) = 0 ↔ tdb (T a) = 0 := by
        have := tdb_le (T a)
        rw [zi_0, zi_inj (by omega) (by decide)]
      rw [n0]
      refine ⟨fun t => ?_, fun t => ?_⟩
      · have tl := tdb_le (T a)
        -- the digits
        have inner : ∀ (g i : Nat), g + i = tdb (T a) → (dgs T (a + 1) (tdb (T a)) = i + dgs T (a + i + 1) g) → zT G (d + 3) mX11_firstBadByte 28 [zr 3 dd, zi (nI (a + i)), zi (nI s), zi (nI (tdb (T a))), zi (nI i)] [] h (fun r h' => r = some (zi (prsV (prs T sz (f + 1) a s).1)) ∧ h' = h) := by
          intro g
          induction g with
          | zero =>
            intro i hi hdg
            have ei : i = tdb (T a) := by omega
            subst ei
            refine wX11_firstBadByte_28 hd ?_
            refine br_t (nI_le (Nat.le_refl _) (by omega)) ⟨hz, ?_⟩
            have dz : dgs T (a + 1) (tdb (T a)) = tdb (T a) := by rw [hdg]; rfl
            have eA : a + tdb (T a) + 1 = a + 1 + tdb (T a) := by omega
            have e2 : (nI (a + 1 + tdb (T a)) + 1 : Int32) = nI (a + tdb (T a) + 2) := by rw [nI_1]; congr 1; omega
            rw [nI_1, eA, (F (a + 1 + tdb (T a)) (by omega)).1, e2, e4, nI_ltI (show a + tdb (T a) + 2 < 2 ^ 31 by omega) (show sz < 2 ^ 31 by omega), nI_1]
            refine ⟨fun z => ?_, fun z => ?_⟩
            · have sb : stB T a = none := by
                unfold stB
                rw [if_neg t, dz, if_neg (Nat.lt_irrefl _), if_pos z]
              rw [prs_n sb]
              refine ⟨fun y => ?_, fun y => ?_⟩
              · rw [if_pos y]
                exact ih (a + tdb (T a) + 2) (s + 1) (by omega) (by omega) (by omega)
              · rw [if_neg y]
                exact ⟨rfl, rfl⟩
            · have sb : stB T a = some (a + 1 + tdb (T a)) := by
                unfold stB
                rw [if_neg t, dz, if_neg (Nat.lt_irrefl _), if_neg z]
              rw [prs_b sb]
              exact ⟨rfl, rfl⟩
          | succ g ih2 =>
            intro i hi hdg
            refine wX11_firstBadByte_28 hd ?_
            refine br_f (nI_ge (show i < tdb (T a) by omega) (by omega)) ⟨hz, ?_⟩
            rw [nI_1, nI_1]
            have D := (F (a + i + 1) (by omega)).2.1
            by_cases q : tdg (T (a + i + 1)) = true
            · have D' := D.mpr q
              refine ⟨fun w => absurd D'.1 (fa_of_lt w).2.1, fun _ => ⟨hz, fun _ => ?_, fun w => absurd D'.2 w⟩⟩
              refine ih2 (i + 1) (by omega) ?_
              rw [hdg, dgs, if_pos q]
              show i + (dgs T (a + (i + 1) + 1) g + 1) = _
              omega
            · have dz : dgs T (a + 1) (tdb (T a)) = i := by rw [hdg, dgs, if_neg q]; rfl
              have sb : stB T a = some (a + i + 1) := by
                unfold stB
                rw [if_neg t, dz, if_pos (by omega)]
                congr 1
                omega
              rw [prs_b sb]
              refine ⟨fun _ => ⟨rfl, rfl⟩, fun w => ⟨hz, fun w2 => ?_, fun _ => ⟨rfl, rfl⟩⟩⟩
              exact absurd (D.mp ⟨fa_of_nlt w, w2⟩) q
        have := inner (tdb (T a)) 0 (by omega) (by rw [Nat.zero_add])
        exact this
      · have sb : stB T a = some a := by
          unfold stB
          rw [if_pos t]
        rw [prs_b sb]
        exact ⟨rfl, rfl⟩
  exact key 101 0 0 (by decide) (by decide) (by decide)
def eRw (k j : Nat) : Bool := eR k j || decide (k = 32)
theorem n1000 {b : Nat} (hb : b ≤ 100) : ¬ (-1000 : Int32) - nI b = 0 := by
  have : ∀ b, b < 101 → ¬ (-1000 : Int32) - nI b = 0 := by decide
  exact this b (by omega)
theorem hall41 {G : ZG} (d : Nat) {dd sz : Nat} {T : Nat → Nat} {x1 x2 : Int32} {Q : Option ZV → ZH → Prop} (hd : dd < 8) (hsz : sz ≤ 100) {X0 : ZH} (K1 : ∀ (X' : ZH) (b : Nat), (prs T sz 101 0 0).1 = some b → b ≤ 100 → zfx eRw X0 X' → zT G (d + 8) mX12_hall 93 [zr 5 0, zi x1, zi x2, zi (nI (prs T sz 101 0 0).2), zi ((-1000) - nI b), zu, zu, zu] [] X' Q) (K2 : ∀ X' : ZH, (prs T sz 101 0 0).1 = none → zfx eRw X0 X' → (∀ j, j < 26 → X'.1 32 0 j = X0.1 30 0 j) → RD X' dd sz T 0 → zT G (d + 8) mX12_hall 93 [zr 5 0, zi x1, zi x2, zi (nI (prs T sz 101 0 0).2), zi 0, zu, zu, zu] [] X' Q) : ∀ (f a s : Nat) (X : ZH), f + s = 101 → s ≤ a → a ≤ 100 → prs T sz f a s = prs T sz 101 0 0 → RD X dd sz T a → zfx eR X0 X → zT G (d + 8) mX12_hall 41 [zr 5 0, zi x1, zi x2, zi (nI s), zi 0, zu, zu, zu] [] X Q := by
  intro f
  induction f with
  | zero => intro a s X h1 h2 h3; omega
  | succ f ih =>
    intro a s X hs hsa ha hp r fX
    refine wX12_hall_41 ?_
    refine zC_mono (sX12_readsStatement (d + 4) hd hsz r ha) ?_
    rintro q X1 ⟨y, rfl, f1, w1, w2⟩
    refine ⟨y, rfl, ?_⟩
    rw [nI_1]
    -- on to the statements
    have last : ∀ (o : Option Nat) (xf : Int32), prs T sz 101 0 0 = (o, s + 1) → (∀ X' : ZH, zfx eRw X0 X' → (∀ j, j < 26 → X'.1 32 0 j = X0.1 30 0 j) → RD X' dd sz T 0 → zT G (d + 8) mX12_hall 93 [zr 5 0, zi x1, zi x2, zi (nI (s + 1)), zi xf, zu, zu, zu] [] X' Q) → (∃ a', RD X1 dd sz T a') → zC G (d + 7) mX12_copies [zr 30 0, zr 32 0] X1 (fun r8 h7 => r8 = none ∧ ∀ h9 : ZH, h9 = zs1 h7 5 0 6 0 → zT G (d + 8) mX12_hall 93 [zr 5 0, zi x1, zi x2, zi (nI (s + 1)), zi xf, zu, zu, zu] [] h9 Q) := by
      rintro o xf ho K ⟨a', r1⟩
      refine zC_mono (sX12_copies (d + 6) rfl rfl (by decide) (by decide) (by decide)) ?_
      rintro q h7 ⟨rfl, e7⟩
      refine ⟨rfl, fun h9 e9 => ?_⟩
      have f01 : zfx eR X0 X1 := fX.tr f1
      have f9 : zfx eRw X0 h9 := by
        refine (f01.mono fun k j q => ?_).tr ?_
        · unfold eRw at q
          simp only [Bool.or_eq_false_iff] at q
          exact q.1
        · rw [e9, e7]
          exact (zfx.R eRw X1 _ (fun _ => by unfold eRw; simp)).tr (zfx.s1 eRw _ _ (by decide))
      refine K h9 f9 (fun j hj => ?_) ?_
      · rw [e9, zs1_at, if_neg (by simp), e7, zsR_at, if_pos ⟨rfl, rfl⟩, if_pos hj]
        exact (f01 30 0 j (by unfold eR; simp)).1
      · exact r1.to (by rw [e9, zs1_at, if_pos ⟨rfl, rfl, rfl⟩]; rfl) (by rw [e9, zs1_at, if_neg (by simp), e7, zsR_at, if_neg (by simp)]) (by rw [e9, zs1_at, if_neg (by simp), e7, zsR_at, if_neg (by simp)]) (by rw [e9, e7]; rfl)
    rcases hb : stB T a with _ | b
    · obtain ⟨rfl, r1, b1, _⟩ := w2 hb
      have pn := prs_n (sz := sz) (f := f) (n := s) hb
      rw [hp] at pn
      refine ⟨fun _ => ⟨fun q => absurd rfl q, fun _ => ?_⟩, fun q => absurd q (by decide)⟩
      rw [r1.1, r1.2.2.1, nI_ltI (show a + tdb (T a) + 2 < 2 ^ 31 by omega) (show sz < 2 ^ 31 by omega)]
      refine ⟨fun q => ?_, fun q => ?_⟩
      · rw [if_pos q] at pn
        exact ih (a + tdb (T a) + 2) (s + 1) X1 (by omega) (by omega) b1 pn.symm r1 (fX.tr f1)
      · rw [if_neg q] at pn
        refine last none 0 pn (fun X' g1 g2 g3 => ?_) ⟨_, r1⟩
        have := K2 X' (by rw [pn]) g1 g2 g3
        rw [pn] at this
        exact this
    · obtain ⟨rfl, r1, b1⟩ := w1 b hb
      have pn := prs_b (sz := sz) (f := f) (n := s) hb
      rw [hp] at pn
      refine ⟨fun q => absurd rfl q, fun _ => ⟨fun _ => ?_, fun q => ?_⟩⟩
      · rw [r1.1]
        refine last (some b) _ pn (fun X' g1 g2 g3 => ?_) ⟨_, r1⟩
        have := K1 X' b (by rw [pn]) b1 g1
        rw [pn] at this
        exact this
      · rw [r1.1] at q
        exact absurd q (n1000 b1)
