/-! ===== hall: both sides ===== -/
theorem wr_0 {h : ZH} (s : SH h) (x : Int32) : wRowI h x 0 = if rowRefI h x = 0 then (if h.1 3 x.toNatClampNeg 3 = 0 then 0 else -12) else rowRefI h x := by
  unfold wRowI rowRefI
  by_cases a : 0 ≤ x ∧ x ≤ 7
  · rw [if_pos a, if_pos a]
    obtain ⟨dd, hd, rfl⟩ := zin8 a
    rw [nI_cl (show dd ≤ 4096 by omega)]
    obtain ⟨n0, hn0, _, w⟩ := s dd hd
    rcases w with ⟨a, b⟩ | ⟨a, b, _⟩ | ⟨a, b, t, ht, r1, r2, _⟩
    · rw [a, b]; rfl
    · rw [a, b]; rfl
    · rw [a, b, r1, r2]
      by_cases q : nI t = 0
      · rw [if_pos q]; simp [q]
      · simp [q]
  · rw [if_neg a, if_neg a]
    rfl
theorem stB_le {T : Nat → Nat} {a b : Nat} (h : stB T a = some b) : b ≤ a + 5 := by
  have tl := tdb_le (T a)
  have dl := dgs_le T (tdb (T a)) (a + 1)
  unfold stB at h
  split at h
  · cases h; omega
  · split at h
    · cases h; omega
    · split at h
      · cases h
      · cases h; omega
theorem prs_le {T : Nat → Nat} {sz b : Nat} (hsz : sz ≤ 100) : ∀ f a n, a ≤ 100 → (prs T sz f a n).1 = some b → b ≤ 105 := by
  intro f
  induction f with
  | zero => intro a n _ h; cases h
  | succ f ih =>
    intro a n ha h
    rcases hb : stB T a with _ | b'
    · rw [prs_n hb] at h
      split at h
      · exact ih _ _ (by omega) h
      · cases h
    · rw [prs_b hb] at h
      cases h
      have := stB_le hb
      omega
theorem two_hall {G : ZG} (d n : Nat) {h : ZH} (hn : n + 200 < 2 ^ 30) (jy : JY n h) (x1 : Int32) : zTwo G (d + 8) mX11_hall mX12_hall [zi x1] n h := by
  obtain ⟨S, c, e, m, hm, j⟩ := jy
  refine zC_of (by decide +kernel) (Nat.le_of_ble_eq_true rfl) (L := [zr 0 0, zi x1, zu, zu, zu]) ⟨rfl, ⟨rfl, trivial⟩⟩ ?_
  refine wX11_hall_0 ?_
  have fin : JY (n + 200) h := j.y (show m ≤ n + 200 by omega)
  have W := wr_0 j.sh x1
  have M : ∀ {h1 : ZH} {Q : Option ZV → ZH → Prop}, zT G (d + 8) mX12_hall 0 [zr 5 0, zi x1, zu, zu, zu, zu, zu, zu] [] h1 Q → zC G (d + 8) mX12_hall [zr 5 0, zi x1] h1 Q := fun k => zC_of (by decide +kernel) (Nat.le_of_ble_eq_true rfl) (L := [zr 5 0, zi x1, zu, zu, zu, zu, zu, zu]) ⟨rfl, ⟨rfl, trivial⟩⟩ k
  refine ⟨fun z => ?_, fun z => ⟨_, rfl, M (wX12_hall_0 ?_)⟩⟩
  · obtain ⟨dd, sz, t, hd, hsz, ht, rfl, e4, e42, e0, e38, e3, e41, el⟩ := rr_0 j.sh z
    have cd : (nI dd).toNatClampNeg = dd := nI_cl (by omega)
    have vd : vp_in (nI dd) 8 := vpn hd (by decide)
    rw [if_pos z, cd] at W
    rw [cd]
    refine ⟨vd, fun s0 => ?_, fun s0 => ⟨_, rfl, M (wX12_hall_0 ?_)⟩⟩
    · rw [if_pos s0] at W
      have t0 : t = 0 := (nt0 ht).1.mp (by rw [← e3]; exact s0)
      have txh : ∀ i, i ≤ 1000 → tch (hvM h dd sz i) = txC h dd i := fun i hi => tx_eq hsz hi e4 fun jj hj => ⟨(el jj hj).1, (el jj hj).2 t0⟩
      -- the model's way in, from a heap with the same of it
      have way : ∀ (hend : ZH) (Q : Option ZV → ZH → Prop), (∀ k, ¬ clsB k = true → ∀ i jj, hend.1 k i jj = h.1 k i jj) → (∀ (X' : ZH) (b : Nat), (prs (txC h dd) sz 101 0 0).1 = some b → b ≤ 100 → (∀ k i jj, eZ k i jj = false → X'.1 k i jj = hend.1 k i jj) → Q (some (zi ((-1000) - nI b))) X') → (∀ X' : ZH, (prs (txC h dd) sz 101 0 0).1 = none → (∀ k i jj, ¬ (k = 32 ∨ k = 34) → ¬ (k = 5 ∧ jj ≠ 3) → X'.1 k i jj = hend.1 k i jj ∧ X'.2 k i jj = hend.2 k i jj) → (∀ jj, jj < 26 → X'.1 32 0 jj = hend.1 30 0 jj) → RD X' dd sz (txC h dd) 0 → zT G (d + 8) mX12_hall 93 [zr 5 0, zi (nI dd), zi 0, zi (nI (prs (txC h dd) sz 101 0 0).2), zi 0, zu, zu, zu] [] X' Q) → zC G (d + 8) mX12_hall [zr 5 0, zi (nI dd)] hend Q := by
        intro hend Q ag K1 K2
        have W1 : wRowI hend (nI dd) 0 = 0 := by
          refine Eq.trans ?_ W
          unfold wRowI
          rw [ag 38 (by decide), ag 41 (by decide)]
        refine M (wX12_hall_0 ⟨fun _ => ?_, fun q => absurd W1 q⟩)
        intro h1 e1
        rw [cd]
        refine ⟨vd, fun h2 e2 h3 e3' => ?_⟩
        rw [W1]
        have o3 : ∀ k i jj, ¬ (k = 5 ∧ jj ≠ 3) → h3.1 k i jj = hend.1 k i jj ∧ h3.2 k i jj = hend.2 k i jj := fun k i jj hk => by
          rw [e3', e2, e1]
          refine ⟨?_, rfl⟩
          rw [zs1_at, if_neg (by omega), zs1_at, if_neg (by omega), zs1_at, if_neg (by omega)]
        have ix := ix_el hd (show 0 < 100 by decide)
        have s42 : h1.1 42 0 dd = nI sz := by rw [e1, zs1_at, if_neg (by simp), ag 42 (by decide)]; exact e42
        rw [s42] at e2
        have rd3 : RD h3 dd sz (txC h dd) 0 := by
          refine ⟨by rw [e3', zs1_at, if_pos ⟨rfl, rfl, rfl⟩]; rfl, ?_, ?_, fun i hi => ?_⟩
          · rw [e3', zs1_at, if_neg (by simp), e2, zs1_at, if_neg (by simp), e1, zs1_at, if_pos ⟨rfl, rfl, rfl⟩]
            exact pk_mul 100 dd
          · rw [e3', zs1_at, if_neg (by simp), e2, zs1_at, if_pos ⟨rfl, rfl, rfl⟩]
          · rw [← txh i hi]
            unfold hvM
            rw [(o3 43 0 _ (by omega)).1, ag 43 (by decide)]
        refine hall41 d hd hsz (X0 := h3) (fun X' b hb b1 fX => ?_) (fun X' hb fX g32 rd' => ?_) 101 0 0 h3 (by decide) (by decide) (by decide) rfl rd3 (zfx.rf _ _)
        · have ne : ¬ ((-1000) - nI b : Int32) = 0 := n1000 b1
          have q : Q (some (zi ((-1000) - nI b))) X' := K1 X' b hb b1 fun k i jj hz => by
            unfold eZ at hz
            simp only [Bool.or_eq_false_iff, decide_eq_false_iff_not] at hz
            rw [(fX k i jj (by unfold eRw eR; simp; omega)).1, (o3 k i jj (by omega)).1]
          exact wX12_hall_93 ⟨fun _ => ⟨fun _ => q, fun q => absurd q ne⟩, fun q => absurd q ne⟩
        · refine K2 X' hb (fun k i jj a b => ?_) (fun jj hj => ?_) rd'
          · have u := fX k i jj (by unfold eRw eR; simp; omega)
            have w := o3 k i jj b
            exact ⟨u.1.trans w.1, u.2.trans w.2⟩
          · rw [g32 jj hj, (o3 30 0 jj (by omega)).1]
      refine zC_mono (sX11_firstBadByte (d + 4) hd hsz e4 (fun _ _ => rfl)) ?_
      rintro r h' ⟨rfl, e'⟩
      rw [e']
      refine ⟨_, rfl, ?_⟩
      rcases hp : (prs (txC h dd) sz 101 0 0).1 with _ | b
      · refine ⟨fun _ => ?_, fun q => absurd (show (-1 : Int32) < 0 by decide) q⟩
        refine zC_of (by decide +kernel) (Nat.le_of_ble_eq_true rfl) (L := [zr 0 0, zr 3 dd, zu, zu, zu]) ⟨rfl, ⟨rfl, trivial⟩⟩ ?_
        refine wX11_doStatements_0 hd ?_
        refine zC_mono (sX4_becomeAs (i0 := 2) (i1 := 0) (d + 5) (by decide) (by decide) (by decide)) ?_
        rintro r h1 ⟨rfl, b1, b2, b3, bf⟩
        refine ⟨rfl, ?_⟩
        have bk : ∀ k i jj, ¬ ((k = 2 ∨ (10 ≤ k ∧ k ≤ 14)) ∧ i = 2) → h1.1 k i jj = h.1 k i jj := fun k i jj a => (bf k i jj (by unfold eB; simp; omega)).1
        have j1 : JX h1 S c e (m, h1) := j.side fun k i jj hz => bk k i jj (by
          unfold eZ at hz
          simp only [Bool.or_eq_false_iff, decide_eq_false_iff_not] at hz
          omega)
        have sz0 : 0 < sz := by
          rcases Nat.eq_zero_or_pos sz with q | q
          · exfalso
            have t0 := tx_end (i := 0) e4 (by decide) (by omega)
            have sb : stB (txC h dd) 0 = some 0 := by
              unfold stB
              rw [t0]
              rfl
            rw [prs_b sb] at hp
            cases hp
          · exact q
        have sh1 : ∀ x, shAt h1 dd x = shAt h dd x := fun x => by
          unfold shAt
          rw [bk 3 dd 4 (by omega)]
          simp only [bk 16 dd _ (by omega)]
        have := doSts (G := G) d n (x1 := nI dd) (x2 := 0) (T := txC h dd) (cntT := (prs (txC h dd) sz 101 0 0).2) hd hsz hn 101 0 0 h1 S c m (by decide) (by decide) (by decide) (Or.inl ⟨sz0, by rw [← hp]⟩) j1.c (by omega) (by rw [bk 3 dd 4 (by omega)]; exact e4) (fun i _ => by unfold txC; rw [sh1])
        refine zT_mono this ?_
        rintro r hend ⟨v, rfl, fK, MM⟩
        refine ⟨v, rfl, v, rfl, ?_⟩
        have mk : ∀ k, ¬ clsB k = true → ∀ i jj, hend.1 k i jj = h.1 k i jj ∧ h1.1 k i jj = h.1 k i jj := fun k hk i jj => by
          have hk' : ¬ (k < 5 ∨ (10 ≤ k ∧ k < 30)) := fun q => hk (by unfold clsB; simpa using q)
          have u := bk k i jj (by omega)
          exact ⟨((fK k i jj (eKK_no (by omega) (by omega))).1).trans u, u⟩
        refine way hend _ (fun k hk i jj => (mk k hk i jj).1) (fun X' b hb => by rw [hp] at hb; cases hb) (fun X' _ o g32 rd' => ?_)
        have ag : agr X' hend := fun k hk => by
          have hk' : (k < 5 ∨ (10 ≤ k ∧ k < 30)) := by unfold clsB at hk; simpa using hk
          by_cases k5 : k = 5
          · omega
          · exact ⟨funext fun i => funext fun jj => (o k i jj (by omega) (by omega)).1, funext fun i => funext fun jj => (o k i jj (by omega) (by omega)).2⟩
        have jm : JX (mixH h1 X') S c e (m, mixH h1 X') := j1.side fun k i jj hz => by
          unfold eZ at hz
          simp only [Bool.or_eq_false_iff, decide_eq_false_iff_not] at hz
          by_cases hk : clsB k = true
          · rw [(mix_c hk).1]
          · rw [(mix_m hk).1, (o k i jj (by omega) (by omega)).1, (mk k hk i jj).1, (mk k hk i jj).2]
        refine MM X' e S (cP c) (cF c) ag jm ?_ rd'
        refine j.1.cp (fun jj j1 j2 => b2 jj j1 j2) (fun k k1 k2 p hp => ?_) (fun jj hj => ?_)
        · have hk : clsB k = true := by unfold clsB; simp; omega
          rw [(mix_c hk).1]
          exact b1 k k1 k2 p hp
        · show X'.1 32 0 jj = _
          rw [g32 jj hj, (mk 30 (by decide) 0 jj).1]
      · have nn : ¬ (nI b : Int32) < 0 := by
          have hb : b < 2 ^ 31 := by
            have := prs_le hsz 101 0 0 (by decide) hp
            omega
          exact nI_pos hb
        refine ⟨fun q => absurd q nn, fun _ => ⟨_, rfl, ?_⟩⟩
        refine way h _ (fun _ _ _ _ => rfl) (fun X' b' hb b1 o => ?_) (fun X' hb => by rw [hp] at hb; cases hb)
        rw [hp] at hb
        cases hb
        exact ⟨rfl, (j.side o).y (show m ≤ n + 200 by omega)⟩
    · rw [if_neg s0] at W
      rw [W]
      exact ⟨fun q => absurd q (by decide), fun _ => ⟨rfl, fin⟩⟩
  · rw [if_neg z] at W
    rw [W]
    exact ⟨fun q => absurd q z, fun _ => ⟨rfl, fin⟩⟩
