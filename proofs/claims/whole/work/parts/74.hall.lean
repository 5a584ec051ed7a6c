/-! ===== hall: all statements, one side and then the other ===== -/
def clsB (k : Nat) : Bool := decide (k < 5) || (decide (10 ≤ k) && decide (k < 30))
def mixH (h X : ZH) : ZH := (fun k => if clsB k = true then h.1 k else X.1 k, fun k => if clsB k = true then h.2 k else X.2 k)
theorem mix_c {h X : ZH} {k : Nat} (hk : clsB k = true) : (mixH h X).1 k = h.1 k ∧ (mixH h X).2 k = h.2 k := ⟨if_pos hk, if_pos hk⟩
theorem mix_m {h X : ZH} {k : Nat} (hk : ¬ clsB k = true) : (mixH h X).1 k = X.1 k ∧ (mixH h X).2 k = X.2 k := ⟨if_neg hk, if_neg hk⟩
def agr (X h : ZH) : Prop := ∀ k, clsB k = true → X.1 k = h.1 k ∧ X.2 k = h.2 k
theorem mix_self {h X : ZH} (a : agr X h) : mixH h X = X := by
  refine zh_ext (fun k i j => ?_) (fun k i j => ?_)
  · by_cases q : clsB k = true
    · rw [(mix_c q).1, (a k q).1]
    · rw [(mix_m q).1]
  · by_cases q : clsB k = true
    · rw [(mix_c q).2, (a k q).2]
    · rw [(mix_m q).2]
theorem mix_fc {ex : Nat → Nat → Nat → Bool} {h h1 : ZH} (X : ZH) (f : zfz ex h h1) : zfz ex (mixH h X) (mixH h1 X) := by
  intro k i j q
  by_cases z : clsB k = true
  · rw [(mix_c z).1, (mix_c z).2, (mix_c z).1, (mix_c z).2]; exact f k i j q
  · rw [(mix_m z).1, (mix_m z).2, (mix_m z).1, (mix_m z).2]; exact ⟨rfl, rfl⟩
theorem mix_fm {ex : Nat → Nat → Nat → Bool} (h : ZH) {X X1 : ZH} (f : zfz ex X X1) : zfz ex (mixH h X) (mixH h X1) := by
  intro k i j q
  by_cases z : clsB k = true
  · rw [(mix_c z).1, (mix_c z).2, (mix_c z).1, (mix_c z).2]; exact ⟨rfl, rfl⟩
  · rw [(mix_m z).1, (mix_m z).2, (mix_m z).1, (mix_m z).2]; exact f k i j q
theorem mix_fx {ex : Nat → Nat → Bool} (h : ZH) {X X1 : ZH} (f : zfx ex X X1) : zfx ex (mixH h X) (mixH h X1) := by
  intro k i j q
  by_cases z : clsB k = true
  · rw [(mix_c z).1, (mix_c z).2, (mix_c z).1, (mix_c z).2]; exact ⟨rfl, rfl⟩
  · rw [(mix_m z).1, (mix_m z).2, (mix_m z).1, (mix_m z).2]; exact f k i j q
theorem RC0.mx {h : ZH} {S N : Nat} {c : ZQ5} (X : ZH) (r : RC0 h S c N) : RC0 (mixH h X) S c N := r.fr (fun _ _ _ => rfl) (fun k k1 k2 => congrFun (mix_c (by unfold clsB; simp; omega)).1 0) rfl rfl
theorem RM0.mx {X : ZH} {S : Nat} {e : ZQ5} (h : ZH) (r : RM0 X S e) : RM0 (mixH h X) S e := r.fr rfl
theorem RM0.um {h X : ZH} {S : Nat} {e : ZQ5} (r : RM0 (mixH h X) S e) : RM0 X S e := r.fr rfl
theorem tch_le (c : Int32) : tch c ≤ 120 := by
  rcases tch_c c with ⟨k, _, _, e, h⟩ | ⟨e, _⟩
  · rw [e]; omega
  · rw [e]; omega
theorem takeS_n {e : ZQ5} {S P : Nat} (hS : S < 4096) (hP : P < 12) (hb : S.testBit P = true) : takeS e S (nI P) = stl e (zsd S (2 ^ P)) := by
  unfold takeS stN
  rw [if_pos ((zin_n (by omega)).mpr hP), if_pos ((hasI_iff hS (by omega)).mpr hb), if_pos rfl, nI_cl (show P ≤ 4096 by omega)]
theorem propP_n {e : ZQ5} {P : Nat} (hP : P < 12) : propP e (nI P) = cP e ^^^ 2 ^ P := by
  unfold propP
  rw [if_pos ((zin_n (by omega)).mpr hP), nI_cl (show P ≤ 4096 by omega)]
theorem propS_n {e : ZQ5} {S P : Nat} (hP : P < 12) : propS e S (nI P) = stl (cWith e (cP e ^^^ 2 ^ P)) S := by
  unfold propS
  rw [if_pos ((zin_n (by omega)).mpr hP), propP_n hP]
/-- the same but for what stands aside -/
def eZ (k i j : Nat) : Bool := decide (k = 32 ∨ k = 34) || (decide ((k = 2 ∨ (10 ≤ k ∧ k ≤ 14)) ∧ i = 2) || decide (k = 5 ∧ j ≠ 3))
theorem eZ_no {k i j : Nat} (h : ¬ (k = 32 ∨ k = 34)) (h2 : ¬ ((k = 2 ∨ (10 ≤ k ∧ k ≤ 14)) ∧ i = 2)) (h3 : ¬ (k = 5 ∧ j ≠ 3)) : eZ k i j = false := by
  unfold eZ
  simp only [Bool.or_eq_false_iff, decide_eq_false_iff_not]
  exact ⟨h, h2, h3⟩
theorem JX.side {h h' : ZH} {S : Nat} {c e : ZQ5} {N : ZN} (j : JX h S c e N) (a : ∀ k i jj, eZ k i jj = false → h'.1 k i jj = h.1 k i jj) : JX h' S c e (N.1, h') := by
  refine ⟨j.1.fr (fun jj _ _ => a 2 0 jj (eZ_no (by omega) (by omega) (by omega))) (fun k k1 k2 p _ => a k 0 p (eZ_no (by omega) (by omega) (by omega))) (funext fun x => a 30 0 x (eZ_no (by omega) (by omega) (by omega))), j.c.fr (fun jj _ _ => a 2 0 jj (eZ_no (by omega) (by omega) (by omega))) (fun k k1 k2 => funext fun x => a k 0 x (eZ_no (by omega) (by omega) (by omega))) (a 1 0 5 (eZ_no (by omega) (by omega) (by omega))) (funext fun x => a 17 0 x (eZ_no (by omega) (by omega) (by omega))), j.m.fr (funext fun x => a 30 0 x (eZ_no (by omega) (by omega) (by omega))), ?_, fun d hd => (j.sh d hd).lo (fun k i jj q => a k i jj (eZ_no (by omega) (by omega) (by omega))), zfx.rf _ _⟩
  exact j.2.2.2.1.fr (a 0 0 6 (eZ_no (by omega) (by omega) (by omega))) (a 5 0 3 (eZ_no (by omega) (by omega) (by omega))) (fun jj _ _ => a 2 1 jj (eZ_no (by omega) (by omega) (by omega))) (fun k k1 k2 p _ => a k 1 p (eZ_no (by omega) (by omega) (by omega))) (funext fun x => a 31 0 x (eZ_no (by omega) (by omega) (by omega)))
/-- what one statement writes of the class -/
def eKK (k i _j : Nat) : Bool := decide (k = 15) || decide ((k = 2 ∨ (10 ≤ k ∧ k ≤ 14)) ∧ i = 0)
theorem eM_KK {k i j : Nat} (h : eKK k i j = false) : eM k i j = false := by
  unfold eKK at h
  unfold eM
  simp only [Bool.or_eq_false_iff, decide_eq_false_iff_not] at h ⊢
  omega
theorem eP_KK {k i j : Nat} (h : eKK k i j = false) : eP k i j = false := eM_P (eM_KK h)
theorem eT_KK {k i j : Nat} (h : eKK k i j = false) : eT k i j = false := eP_T (eP_KK h)
theorem eB_KK {k i j : Nat} (h : eKK k i j = false) : eB 0 k i j = false := by
  unfold eKK at h
  unfold eB
  simp only [Bool.or_eq_false_iff, decide_eq_false_iff_not] at h ⊢
  exact h.2
theorem eKK_no {k i j : Nat} (h : k ≠ 15) (h2 : ¬ ((k = 2 ∨ (10 ≤ k ∧ k ≤ 14)) ∧ i = 0)) : eKK k i j = false := by
  unfold eKK
  simp only [Bool.or_eq_false_iff, decide_eq_false_iff_not]
  exact ⟨h, h2⟩
/-- what a statement of the model tells -/
def mStep (T : Nat → Nat) (a S : Nat) (e : ZQ5) (X X' : ZH) : Prop := zfz eMs X X' ∧ (T a = 115 → RM0 X' (stl (cfgH X' (cP e)) (S ||| 2 ^ (num T (a + 1) 2))) (cfgH X' (cP e)) ∧ (X'.1 30 0 (2 + 2 * (num T (a + 1) 2)) = nI (T (a + 3) - 48) ∧ X'.1 30 0 (2 + 2 * (num T (a + 1) 2) + 1) = nI (T (a + 4) - 48)) ∧ (∀ j, 2 ≤ j → j ≠ 2 + 2 * (num T (a + 1) 2) → j ≠ 2 + 2 * (num T (a + 1) 2) + 1 → X'.1 30 0 j = X.1 30 0 j)) ∧ (T a = 120 → ∃ e', RM0 X' (stl e (zsd S (2 ^ (num T (a + 1) 2)))) e' ∧ cEq e' e (stl e (zsd S (2 ^ (num T (a + 1) 2)))) ∧ ∀ j, 2 ≤ j → X'.1 30 0 j = X.1 30 0 j) ∧ (T a ≠ 115 → T a ≠ 120 → ∃ e', RM0 X' (stl (cWith e (cP e ^^^ 2 ^ (num T (a + 1) 2))) S) e' ∧ cEq e' (cWith e (cP e ^^^ 2 ^ (num T (a + 1) 2))) S ∧ ∀ j, 2 ≤ j → X'.1 30 0 j = X.1 30 0 j)
theorem failS_no {t P k S : Nat} (h : ¬ failS t P k S) : P < 12 ∧ (t = 120 → S.testBit P = true) ∧ (t = 115 → k < 8 ∧ ¬ S.testBit P = true) := by
  unfold failS at h
  simp only [not_or, not_and, Classical.not_not] at h
  exact ⟨h.1, h.2.1, fun t5 => ⟨by have := (h.2.2 t5).1; omega, (h.2.2 t5).2⟩⟩
/-- the model's way through one statement: read and done -/
theorem hall93 {G : ZG} (d : Nat) {dd sz a S : Nat} {T : Nat → Nat} {e : ZQ5} {X : ZH} {x1 x2 x3 : Int32} {Q : Option ZV → ZH → Prop} (hd : dd < 8) (hsz : sz ≤ 100) (ha : a < sz) (sb : stB T a = none) (tl : ∀ i, i ≤ 1000 → T i ≤ 120) (rd : RD X dd sz T a) (m : RM0 X S e) (K0 : ∀ X1 X' : ZH, failS (T a) (num T (a + 1) 2) (T (a + 3) - 48) S → zfx eR X X1 → X' = zsR X1 30 0 (fun j => if j < 26 then X1.1 32 0 j else X1.1 30 0 j) → Q (some (zi ((-2000) - nI a))) X') (K1 : ∀ X1 X' : ZH, ¬ failS (T a) (num T (a + 1) 2) (T (a + 3) - 48) S → zfx eR X X1 → mStep T a S e X1 X' → RD X' dd sz T (a + tdb (T a) + 2) → a + tdb (T a) + 2 ≤ 100 → zT G (d + 8) mX12_hall 93 [zr 5 0, zi x1, zi x2, zi x3, zi 0, zu, zu, zu] [] X' Q) : zT G (d + 8) mX12_hall 93 [zr 5 0, zi x1, zi x2, zi x3, zi 0, zu, zu, zu] [] X Q := by
  have ha' : a ≤ 100 := by omega
  have nle : ¬ X.1 5 0 8 ≤ X.1 5 0 6 := by rw [rd.1, rd.2.2.1]; exact nI_ge ha (by omega)
  refine wX12_hall_93 ⟨fun q => absurd rfl q, fun _ => ⟨fun q => absurd q nle, fun _ => ?_⟩⟩
  refine zC_mono (sX12_here (d + 6) hd hsz rd ha') ?_
  rintro q X0 ⟨cc, rfl, ec, e0⟩
  rw [e0]
  refine ⟨cc, rfl, ?_⟩
  refine zC_mono (sX12_readsStatement (d + 4) hd hsz rd ha') ?_
  rintro q X1 ⟨y, rfl, f1, -, w2⟩
  obtain ⟨rfl, rd1, b1, n0, n1⟩ := w2 sb
  refine ⟨1, rfl, ?_⟩
  have m1 : RM0 X1 S e := m.fx f1 fun _ => by unfold eR; simp
  have lp : num T (a + 1) 2 ≤ 1000 := by
    rw [num2]
    have := tl (a + 1) (by omega)
    have := tl (a + 1 + 1) (by omega)
    omega
  have lk : T (a + 3) - 48 ≤ 1000 := by
    have := tl (a + 3) (by omega)
    omega
  refine zC_mono (sX12_isDone d m1 ec n0 lp n1 lk) ?_
  rintro q X2 (⟨fl, rfl, e2⟩ | ⟨nf, rfl, f2, w115, w120, w112⟩)
  · refine ⟨0, rfl, fun _ => ?_, fun q => absurd rfl q⟩
    rw [e2]
    refine zC_mono (sX12_copies (d + 6) rfl rfl (by decide) (by decide) (by decide)) ?_
    rintro q X3 ⟨rfl, e3⟩
    refine ⟨rfl, ?_⟩
    rw [rd.1]
    have ne : ¬ ((-2000) - nI a : Int32) = 0 := by
      have : ∀ a, a < 101 → ¬ ((-2000) - nI a : Int32) = 0 := by decide
      exact this a (by omega)
    exact wX12_hall_93 ⟨fun _ => ⟨fun _ => K0 X1 X3 fl f1 e3, fun q => absurd q ne⟩, fun q => absurd q ne⟩
  · refine ⟨1, rfl, fun q => absurd q (by decide), fun _ => ?_⟩
    refine K1 X1 X2 nf f1 ⟨f2, w115, w120, w112⟩ ?_ b1
    exact rd1.to ((f2 5 0 6 (eMs_no (by decide) (fun _ => by decide) (by decide))).1.trans rd1.1) (f2 5 0 7 (eMs_no (by decide) (fun _ => by decide) (by decide))).1 (f2 5 0 8 (eMs_no (by decide) (fun _ => by decide) (by decide))).1 (funext fun x => (f2 43 0 x (eMs_no (by decide) (fun q => absurd q (by decide)) (by decide))).1)
set_option maxHeartbeats 1000000 in
theorem doSts {G : ZG} (d n : Nat) {dd sz cntT : Nat} {T : Nat → Nat} {x1 x2 : Int32} (hd : dd < 8) (hsz : sz ≤ 100) (hn : n + 200 < 2 ^ 30) : ∀ (f a s : Nat) (h : ZH) (S : Nat) (c : ZQ5) (N : Nat), f + s = 101 → s ≤ a → a ≤ 100 → ((a < sz ∧ prs T sz f a s = (none, cntT)) ∨ (sz ≤ a ∧ cntT = s)) → RC0 h S c N → N + f + 2 ≤ n + 200 → h.1 3 dd 4 = nI sz → (∀ i, i ≤ 1000 → txC h dd i = T i) → zT G (d + 7) mX11_doStatements 18 [zr 0 0, zr 3 dd, zi (nI s), zi (nI a), zi (nI s)] [] h (fun r hend => ∃ v : Int32, r = some (zi v) ∧ zfz eKK h hend ∧ ∀ (X : ZH) (e : ZQ5) (S0 P0 F0 : Nat), agr X hend → JX (mixH h X) S c e (N, mixH h X) → HB (mixH h X) 2 32 S0 P0 F0 → RD X dd sz T a → zT G (d + 8) mX12_hall 93 [zr 5 0, zi x1, zi x2, zi (nI cntT), zi 0, zu, zu, zu] [] X (fun r2 h2 => r2 = some (zi v) ∧ JY (n + 200) h2)) := by
  intro f
  induction f with
  | zero => intro a s h S c N h1 h2 h3; omega
  | succ f ih =>
    intro a s h S c N hs hsa ha hcase hR hN e4 tx
    refine wX11_doStatements_18 hd ?_
    rcases hcase with ⟨lt, hp⟩ | ⟨ge, hc⟩
    · have sb : stB T a = none := by
        rcases hb : stB T a with _ | b
        · rfl
        · rw [prs_b hb] at hp
          cases hp
      have tl : ∀ i, i ≤ 1000 → T i ≤ 120 := fun i hi => by rw [← tx i hi]; exact tch_le _
      refine ⟨fun q => absurd q (nI_ge (a := s) (b := 100) (by omega) (by decide)), fun _ => ⟨fun q => absurd q (by rw [e4]; exact nI_ge lt (by omega)), fun _ => ?_⟩⟩
      refine zC_mono (sX11_doStatement d hd hsz e4 tx ha sb hR (by omega)) ?_
      rintro r h1 (⟨fl, rfl, e1⟩ | ⟨nf, rfl, w115, w120, w112⟩)
      · refine ⟨0, rfl, fun q => absurd rfl q, fun _ => ?_⟩
        rw [e1]
        refine zC_mono (sX4_becomeAs (i0 := 0) (i1 := 2) (d + 5) (by decide) (by decide) (by decide)) ?_
        rintro r h4 ⟨rfl, b1, b2, b3, bf⟩
        refine ⟨rfl, _, rfl, bf.mono fun _ _ _ => eB_KK, ?_⟩
        intro X e S0 P0 F0 ag j hb rd
        refine hall93 d hd hsz lt sb tl rd j.m.um (fun X1 X' _ f1 eX' => ⟨rfl, ?_⟩) (fun _ _ nf => absurd fl nf)
        have x2 : ∀ k i jj, k ≠ 30 → X'.1 k i jj = X1.1 k i jj := fun k i jj hk => by rw [eX', zsR_at, if_neg (fun q => hk q.1)]
        have x1 : ∀ k i jj, ¬ (k = 34) → ¬ (k = 5 ∧ jj = 6) → X1.1 k i jj = X.1 k i jj := fun k i jj a b => (f1 k i jj (by unfold eR; simp; omega)).1
        have xc : ∀ k, clsB k = true → ∀ i jj, X'.1 k i jj = h4.1 k i jj := fun k hk i jj => by
          have hk' : (k < 5 ∨ (10 ≤ k ∧ k < 30)) := by unfold clsB at hk; simpa using hk
          rw [x2 k i jj (by omega), x1 k i jj (by omega) (by omega), (ag k hk).1]
        have bk : ∀ k i jj, ¬ ((k = 2 ∨ (10 ≤ k ∧ k ≤ 14)) ∧ i = 0) → h4.1 k i jj = h.1 k i jj := fun k i jj a => (bf k i jj (by unfold eB; simp; omega)).1
        have hb2 : HB X' 0 30 S0 P0 F0 := hb.cp (fun jj j1 j2 => by rw [xc 2 rfl, b2 jj j1 j2]; rfl) (fun k k1 k2 p hp => by
          have hk : clsB k = true := by unfold clsB; simp; omega
          rw [xc k hk, b1 k k1 k2 p hp, (mix_c hk).1]) (fun jj hj => by rw [eX', zsR_at, if_pos ⟨rfl, rfl⟩, if_pos hj]; exact x1 32 0 jj (by omega) (by omega))
        have hS := hb2.1
        have hP := hb2.2.1
        have hF := hb2.2.2.1
        have c9 : X'.1 2 0 9 = nI (N + 1) := by
          rw [xc 2 rfl, b3, hR.2.2.2.2.2.2.2.2.1]
          exact nI_1 N
        refine ⟨S0, cfgC X' F0 P0, cfgH X' P0, N + 1, by omega, hb2, ?_, ⟨hS, hP, hb2.2.2.2.2.2.2.1, hb2.2.2.2.2.2.2.2.1, rfl⟩, ?_, ?_, zfx.rf _ _⟩
        · exact hR.new (h' := X') (by omega) hS hP hF hb2.2.2.2.1 hb2.2.2.2.2.1 hb2.2.2.2.2.2.1 c9 (by rw [xc 1 rfl, bk 1 0 5 (by omega)])
        · refine j.2.2.2.1.fr ?_ ?_ (fun jj _ _ => ?_) (fun k k1 k2 p _ => ?_) (funext fun x => ?_)
          · rw [xc 0 rfl, bk 0 0 6 (by omega)]; rfl
          · rw [x2 5 0 3 (by omega), x1 5 0 3 (by omega) (by omega)]; rfl
          · rw [xc 2 rfl, bk 2 1 jj (by omega)]; rfl
          · have hk : clsB k = true := by unfold clsB; simp; omega
            rw [xc k hk, bk k 1 p (by omega), (mix_c hk).1]
          · rw [x2 31 0 x (by omega), x1 31 0 x (by omega) (by omega)]; rfl
        · refine fun d' hd' => (j.sh d' hd').lo (fun k i jj q => ?_)
          by_cases hk : clsB k = true
          · have hk' : (k < 5 ∨ (10 ≤ k ∧ k < 30)) := by unfold clsB at hk; simpa using hk
            rw [xc k hk, bk k i jj (by omega), (mix_c hk).1]
          · rw [x2 k i jj (by omega), x1 k i jj (by omega) (by omega), (mix_m hk).1]
      · obtain ⟨p12, nb120, nb115⟩ := failS_no nf
        have t3 : T a = 115 ∨ T a = 120 ∨ (T a ≠ 115 ∧ T a ≠ 120) := by omega
        have fK : zfz eKK h h1 := by
          rcases t3 with t | t | ⟨t, t'⟩
          · obtain ⟨_, _, _, _, _, _, fM⟩ := w115 t
            exact fM.mono fun _ _ _ => eM_KK
          · exact (w120 t).2.mono fun _ _ _ => eT_KK
          · obtain ⟨_, _, _, fP⟩ := w112 t t'
            exact fP.mono fun _ _ _ => eP_KK
        have core : ∃ (S1 : Nat) (c1 : ZQ5) (N1 : Nat), N1 ≤ N + 1 ∧ RC0 h1 S1 c1 N1 ∧ ∀ (X X3 : ZH) (e : ZQ5), JX (mixH h X) S c e (N, mixH h X) → mStep T a S e X X3 → ∃ e', JX (mixH h1 X3) S1 c1 e' (N1, mixH h1 X3) := by
          rcases t3 with t | t | ⟨t, t'⟩
          · obtain ⟨f10, c', ec, rc, r10, r11, fM⟩ := w115 t
            refine ⟨_, c', N + 1, Nat.le_refl _, rc, fun X X3 e j ms => ?_⟩
            obtain ⟨mm, ⟨k2, g2⟩, a2⟩ := ms.2.1 t
            exact ⟨_, (j.lay p12 (nb115 t).1 f10 ec (rc.mx X) r10 r11 (mix_fc X fM) (h2 := mixH h1 X3) (mm.mx h1) k2 g2 a2 (mix_fm h1 (ms.1.mono fun _ _ _ => eMs_M))).2⟩
          · obtain ⟨rc, fT⟩ := w120 t
            have hb := nb120 t
            refine ⟨_, c, N, by omega, rc, fun X X3 e j ms => ?_⟩
            obtain ⟨e', mm, q, a2⟩ := ms.2.2.1 t
            have eS : takeS e S (nI (num T (a + 1) 2)) = stl e (zsd S (2 ^ (num T (a + 1) 2))) := takeS_n hR.1 p12 hb
            have eC : stl c (zsd S (2 ^ (num T (a + 1) 2))) = stl e (zsd S (2 ^ (num T (a + 1) 2))) := j.stlE (zsd_le hR.1)
            have := j.takes (nI (num T (a + 1) 2)) (h1 := mixH h1 X) (h2 := mixH h1 X3) (e' := e') (mix_fc X fT) (by rw [eS, ← eC]; exact rc.mx X) (mix_fm h1 (ms.1.mono fun _ _ _ => eMs_M)) (by rw [eS]; exact mm.mx h1) (by rw [eS]; exact q) a2
            rw [eS, ← eC] at this
            exact ⟨e', this⟩
          · obtain ⟨c', ec, rc, fP⟩ := w112 t t'
            refine ⟨_, c', N + 1, Nat.le_refl _, rc, fun X X3 e j ms => ?_⟩
            obtain ⟨e', mm, q, a2⟩ := ms.2.2.2 t t'
            have eP' : propP e (nI (num T (a + 1) 2)) = cP e ^^^ 2 ^ (num T (a + 1) 2) := propP_n p12
            have eS : propS e S (nI (num T (a + 1) 2)) = stl (cWith e (cP e ^^^ 2 ^ (num T (a + 1) 2))) S := propS_n p12
            have ec' : c' = cWith c (cP e ^^^ 2 ^ (num T (a + 1) 2)) := by rw [ec, j.eq.1]; rfl
            have eC : stl c' S = stl (cWith e (cP e ^^^ 2 ^ (num T (a + 1) 2))) S := by rw [ec']; exact stl_eq hR.1 (cWith_eq j.eq _)
            have := j.props (nI (num T (a + 1) 2)) (h1 := mixH h1 X) (h2 := mixH h1 X3) (e' := e') (n := N + 1) (mix_fc X fP) (by rw [eS, ← eC, eP', ← ec']; exact rc.mx X) (mix_fm h1 (ms.1.mono fun _ _ _ => eMs_M)) (by rw [eS]; exact mm.mx h1) (by rw [eP']; exact q) a2
            rw [eS, ← eC, eP', ← ec'] at this
            exact ⟨e', this⟩
        obtain ⟨S1, c1, N1, hN1, rc1, K⟩ := core
        have k3 : ∀ jj, h1.1 3 dd jj = h.1 3 dd jj := fun jj => (fK 3 dd jj (eKK_no (by decide) (by omega))).1
        have k16 : ∀ jj, h1.1 16 dd jj = h.1 16 dd jj := fun jj => (fK 16 dd jj (eKK_no (by decide) (by omega))).1
        have sh1 : ∀ x, shAt h1 dd x = shAt h dd x := fun x => by unfold shAt; rw [k3, k16]
        have e41 : h1.1 3 dd 4 = nI sz := by rw [k3]; exact e4
        have tx1 : ∀ i, i ≤ 1000 → txC h1 dd i = T i := fun i hi => by
          rw [← tx i hi]
          unfold txC
          rw [sh1]
        refine ⟨1, rfl, fun _ => ⟨by rw [e41]; exact n100 hsz, ?_⟩, fun q => absurd q (by decide)⟩
        have edb : dbI (shAt h1 dd (nI a)) = nI (tdb (T a)) := by
          rw [sh1, tch_db]
          exact congrArg (fun q => nI (tdb q)) (tx a (by omega))
        have en : nI a + (nI (tdb (T a)) + 2) = nI (a + tdb (T a) + 2) := by
          rw [show (2 : Int32) = nI 2 by decide, nI_add, nI_add, Nat.add_assoc]
        rw [edb, en, nI_1]
        have pn := prs_n (sz := sz) (f := f) (n := s) sb
        rw [hp] at pn
        obtain ⟨_, _, t59⟩ := stB_ok sb
        have ltl : a + 1 + tdb (T a) < sz := Nat.lt_of_not_le fun q => by
          have tb := tdb_le (T a)
          have := tx_end (i := a + 1 + tdb (T a)) e4 (by omega) q
          rw [tx _ (by omega), t59] at this
          exact absurd this (by decide)
        have hcase1 : (a + tdb (T a) + 2 < sz ∧ prs T sz f (a + tdb (T a) + 2) (s + 1) = (none, cntT)) ∨ (sz ≤ a + tdb (T a) + 2 ∧ cntT = s + 1) := by
          by_cases q : a + tdb (T a) + 2 < sz
          · rw [if_pos q] at pn
            exact Or.inl ⟨q, pn.symm⟩
          · rw [if_neg q] at pn
            exact Or.inr ⟨by omega, by cases pn; rfl⟩
        refine zT_mono (ih (a + tdb (T a) + 2) (s + 1) h1 S1 c1 N1 (by omega) (by omega) (by omega) hcase1 rc1 (by omega) e41 tx1) ?_
        rintro r hend ⟨v, rfl, fE, M⟩
        refine ⟨v, rfl, fK.tr fE, ?_⟩
        intro X e S0 P0 F0 ag j hb rd
        refine hall93 d hd hsz lt sb tl rd j.m.um (fun _ _ fl => absurd fl nf) (fun X1 X3 _ f1 ms rd3 _ => ?_)
        have j1 : JX (mixH h X1) S c e (N, mixH h X1) := (j.fm (mix_fx h f1) (fun k jj q => by
          unfold eA at q
          unfold eR
          simp only [Bool.or_eq_false_iff, decide_eq_false_iff_not] at q ⊢
          omega) (fun _ => by unfold eR; simp) (fun _ => by unfold eR; simp)).now
        obtain ⟨e', j3⟩ := K X1 X3 e j1 ms
        have x3 : ∀ k i jj, (clsB k = true ∨ k = 32) → X3.1 k i jj = X.1 k i jj ∧ X3.2 k i jj = X.2 k i jj := fun k i jj hk => by
          have hk' : (k < 5 ∨ (10 ≤ k ∧ k < 30)) ∨ k = 32 := by
            rcases hk with hk | hk
            · unfold clsB at hk; left; simpa using hk
            · exact Or.inr hk
          have u := ms.1 k i jj (eMs_no (by omega) (by omega) (by omega))
          have w := f1 k i jj (by unfold eR; simp; omega)
          exact ⟨u.1.trans w.1, u.2.trans w.2⟩
        refine M X3 e' S0 P0 F0 (fun k hk => ⟨?_, ?_⟩) j3 ?_ rd3
        · rw [← (ag k hk).1]
          exact funext fun i => funext fun jj => (x3 k i jj (Or.inl hk)).1
        · rw [← (ag k hk).2]
          exact funext fun i => funext fun jj => (x3 k i jj (Or.inl hk)).2
        · refine hb.cp (fun jj _ _ => ?_) (fun k k1 k2 p _ => ?_) (fun jj _ => ?_)
          · exact (fK 2 2 jj (eKK_no (by decide) (by omega))).1
          · have hk : clsB k = true := by unfold clsB; simp; omega
            rw [(mix_c hk).1, (mix_c hk).1]
            exact (fK k 2 p (eKK_no (by omega) (by omega))).1
          · exact (x3 32 0 jj (Or.inr rfl)).1
    · have fin : ∃ v : Int32, (some (zi (nI s)) : Option ZV) = some (zi v) ∧ zfz eKK h h ∧ ∀ (X : ZH) (e : ZQ5) (S0 P0 F0 : Nat), agr X h → JX (mixH h X) S c e (N, mixH h X) → HB (mixH h X) 2 32 S0 P0 F0 → RD X dd sz T a → zT G (d + 8) mX12_hall 93 [zr 5 0, zi x1, zi x2, zi (nI cntT), zi 0, zu, zu, zu] [] X (fun r2 h2 => r2 = some (zi v) ∧ JY (n + 200) h2) := by
        refine ⟨_, rfl, zfz.rf _ _, ?_⟩
        intro X e S0 P0 F0 ag j hb rd
        refine wX12_hall_93 ⟨fun q => absurd rfl q, fun _ => ⟨fun _ => ⟨fun q => absurd rfl q, fun _ => ⟨by rw [hc], ?_⟩⟩, fun q => absurd ?_ q⟩⟩
        · rw [mix_self ag] at j
          exact j.y (show N ≤ n + 200 by omega)
        · rw [rd.1, rd.2.2.1]
          exact nI_le ge (by omega)
      exact ⟨fun _ => fin, fun _ => ⟨fun _ => fin, fun q => absurd (by rw [e4]; exact nI_le ge (by omega)) q⟩⟩
