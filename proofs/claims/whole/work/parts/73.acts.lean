/-! ===== one statement of a text: done on each side ===== -/
def failS (t P k S : Nat) : Prop := ¬ P < 12 ∨ (t = 120 ∧ ¬ S.testBit P = true) ∨ (t = 115 ∧ (8 ≤ k ∨ S.testBit P = true))
theorem zin_n {P : Nat} (hP : P ≤ 1000) : (0 ≤ nI P ∧ nI P ≤ 11) ↔ P < 12 := by
  rw [show nI P ≤ (11 : Int32) ↔ P ≤ 11 from nI_leI (b := 11) (by omega) (by decide)]
  constructor
  · intro q; omega
  · intro q; exact ⟨nI_pos' (by omega), by omega⟩
theorem sX12_isDone {G : ZG} (d : Nat) {X : ZH} {S P k f : Nat} {e : ZQ5} {cc : Int32} {t : Nat} (m : RM0 X S e) (ht : tch cc = t) (n0 : X.1 34 0 0 = nI P) (hP : P ≤ 1000) (n1 : t = 115 → X.1 34 0 1 = nI k ∧ X.1 34 0 2 = nI f) (hk : k ≤ 1000) : zC G (d + 7) mX12_isDone [zr 5 0, zi cc] X (fun r X' => (failS t P k S ∧ r = some (zi 0) ∧ X' = X) ∨ (¬ failS t P k S ∧ r = some (zi 1) ∧ zfz eMs X X' ∧ (t = 115 → RM0 X' (stl (cfgH X' (cP e)) (S ||| 2 ^ P)) (cfgH X' (cP e)) ∧ (X'.1 30 0 (2 + 2 * P) = nI k ∧ X'.1 30 0 (2 + 2 * P + 1) = nI f) ∧ (∀ j, 2 ≤ j → j ≠ 2 + 2 * P → j ≠ 2 + 2 * P + 1 → X'.1 30 0 j = X.1 30 0 j)) ∧ (t = 120 → ∃ e', RM0 X' (stl e (zsd S (2 ^ P))) e' ∧ cEq e' e (stl e (zsd S (2 ^ P))) ∧ ∀ j, 2 ≤ j → X'.1 30 0 j = X.1 30 0 j) ∧ (t ≠ 115 → t ≠ 120 → ∃ e', RM0 X' (stl (cWith e (cP e ^^^ 2 ^ P)) S) e' ∧ cEq e' (cWith e (cP e ^^^ 2 ^ P)) S ∧ ∀ j, 2 ≤ j → X'.1 30 0 j = X.1 30 0 j))) := by
  refine zC_of (by decide +kernel) (Nat.le_of_ble_eq_true rfl) (L := [zr 5 0, zi cc, zu]) ⟨rfl, ⟨rfl, trivial⟩⟩ ?_
  refine wX12_isDone_0 ?_
  have F := tch_is (c := cc)
  rw [ht] at F
  have m0 := m.2.2.1
  have hS := m.1
  have hPP := m.2.1
  rw [n0, zin_n hP, F.2.2.1, F.2.2.2.1, m0]
  refine ⟨fun p12 => ⟨fun t115 => ?_, fun n115 => ⟨fun t120 => ?_, fun n120 => ?_⟩⟩, fun p12 => Or.inl ⟨Or.inl p12, rfl, rfl⟩⟩
  · obtain ⟨k1, f1⟩ := n1 t115
    rw [hasI_iff hS (show P < 32 by omega), k1, f1, show nI k < (8 : Int32) ↔ k < 8 from nI_ltI (b := 8) (by omega) (by decide)]
    refine ⟨fun b => Or.inl ⟨Or.inr (Or.inr ⟨t115, Or.inr b⟩), rfl, rfl⟩, fun b => ⟨fun k8 => ?_, fun k8 => Or.inl ⟨Or.inr (Or.inr ⟨t115, Or.inl (by omega)⟩), rfl, rfl⟩⟩⟩
    refine zC_mono (sX12_laysAt d m p12) ?_
    rintro r X' ⟨rfl, q1, q2, q3, q4⟩
    refine ⟨rfl, Or.inr ⟨?_, rfl, q4, fun _ => ⟨q1, q2, q3⟩, fun q => by omega, fun q => absurd t115 q⟩⟩
    rintro (q | ⟨q, _⟩ | ⟨_, q⟩)
    · exact q p12
    · omega
    · rcases q with q | q
      · omega
      · exact b q
  · rw [hasI_iff hS (show P < 32 by omega)]
    refine ⟨fun b => ?_, fun b => Or.inl ⟨Or.inr (Or.inl ⟨t120, b⟩), rfl, rfl⟩⟩
    rw [zi_sh p12]
    refine zC_mono (kX0_leftWithout d m hS) ?_
    rintro r h2 ⟨rfl, _, m2, f2⟩
    refine ⟨_, rfl, ?_⟩
    intro h4 e4
    have lt := stl_lt e (zsd_lt (T := 2 ^ P) hS)
    have a4 : ∀ j, 2 ≤ j → h4.1 30 0 j = X.1 30 0 j := fun jj hj => by
      rw [e4, zs1_at, if_neg (by omega)]
      exact (f2 30 0 jj (eS_no (by decide) (by decide))).1
    have z4 : h4.1 30 0 0 = nI (stl e (zsd S (2 ^ P))) := by rw [e4, zs1_at, if_pos ⟨rfl, rfl, rfl⟩]
    have p4 : h4.1 30 0 1 = nI (cP e) := by rw [e4, zs1_at, if_neg (by simp)]; exact m2.2.2.2.1
    have q := m.put lt m.2.1 z4 p4 a4
    refine Or.inr ⟨?_, rfl, ?_, fun q => absurd q n115, fun _ => ⟨_, q.1, q.2 _, a4⟩, fun _ q => absurd t120 q⟩
    · rintro (q | ⟨_, q⟩ | ⟨q, _⟩)
      · exact q p12
      · exact q b
      · exact n115 q
    · rw [e4]
      exact (zfz.of f2 fun _ _ _ => eS_Ms).tr (zfz.s1 eMs h2 _ (by unfold eMs; simp))
  · rw [m.2.2.2.1, zi_sh p12, fb_xorI]
    intro h2 e2
    have P4 : cP e ^^^ 2 ^ P < 4096 := zxor_lt hPP (zp_lt p12)
    have a2 : ∀ j, 2 ≤ j → h2.1 30 0 j = X.1 30 0 j := fun jj hj => by
      rw [e2, zs1_at, if_neg (by omega)]
    have z2 : h2.1 30 0 0 = nI S := by rw [e2, zs1_at, if_neg (by simp)]; exact m0
    have q2 := m.put hS P4 z2 (by rw [e2, zs1_at, if_pos ⟨rfl, rfl, rfl⟩]) a2
    rw [z2]
    refine zC_mono (kX0_settled (d + 1) q2.1 hS) ?_
    rintro r h3 ⟨rfl, _, m3, f3⟩
    refine ⟨_, rfl, ?_⟩
    intro h5 e5
    have st : stl (cfgH h2 (cP e ^^^ 2 ^ P)) S = stl (cWith e (cP e ^^^ 2 ^ P)) S := stl_eq hS (q2.2 S)
    rw [st] at e5
    have lt : stl (cWith e (cP e ^^^ 2 ^ P)) S < 4096 := stl_lt _ hS
    have a5 : ∀ j, 2 ≤ j → h5.1 30 0 j = X.1 30 0 j := fun jj hj => by
      rw [e5, zs1_at, if_neg (by omega), (f3 30 0 jj (eS_no (by decide) (by decide))).1]
      exact a2 jj hj
    have z5 : h5.1 30 0 0 = nI (stl (cWith e (cP e ^^^ 2 ^ P)) S) := by rw [e5, zs1_at, if_pos ⟨rfl, rfl, rfl⟩]
    have p5 : h5.1 30 0 1 = nI (cP e ^^^ 2 ^ P) := by rw [e5, zs1_at, if_neg (by simp)]; exact m3.2.2.2.1
    have q5 := m.put lt P4 z5 p5 a5
    refine Or.inr ⟨?_, rfl, ?_, fun q => absurd q n115, fun q => absurd q n120, fun _ _ => ⟨_, q5.1, q5.2 S, a5⟩⟩
    · rintro (q | ⟨q, _⟩ | ⟨q, _⟩)
      · exact q p12
      · exact n120 q
      · exact n115 q
    · rw [e5]
      refine (?_ : zfz eMs X h2).tr ((zfz.of f3 fun _ _ _ => eS_Ms).tr (zfz.s1 eMs h3 _ (by unfold eMs; simp)))
      rw [e2]
      exact zfz.s1 eMs X _ (by unfold eMs; simp)
theorem num2 (T : Nat → Nat) (a : Nat) : num T a 2 = 10 * (T a - 48) + (T (a + 1) - 48) := by simp [num]
theorem dg_sub {c : Int32} {t : Nat} (e : c = nI t) (h : 48 ≤ t) : c - 48 = nI (t - 48) := by
  rw [e, show (48 : Int32) = nI 48 by decide, nI_sub h]
set_option maxHeartbeats 1000000 in
theorem sX11_doStatement {G : ZG} (d : Nat) {h : ZH} {dd sz a S N : Nat} {T : Nat → Nat} {c : ZQ5} (hd : dd < 8) (hsz : sz ≤ 100) (e4 : h.1 3 dd 4 = nI sz) (tx : ∀ i, i ≤ 1000 → txC h dd i = T i) (ha : a ≤ 100) (ok : stB T a = none) (hR : RC0 h S c N) (hN : N + 1 < 2 ^ 30) : zC G (d + 6) mX11_doStatement [zr 0 0, zr 3 dd, zi (nI a)] h (fun r h1 => (failS (T a) (num T (a + 1) 2) (T (a + 3) - 48) S ∧ r = some (zi 0) ∧ h1 = h) ∨ (¬ failS (T a) (num T (a + 1) 2) (T (a + 3) - 48) S ∧ r = some (zi 1) ∧ (T a = 115 → T (a + 4) - 48 < 10 ∧ ∃ c' : ZQ5, c' = (upd (cW c) (num T (a + 1) 2) (wgtI (nI (T (a + 3) - 48)) (nI (T (a + 4) - 48))), upd (cB c) (num T (a + 1) 2) (brsI (nI (T (a + 3) - 48)) (nI (T (a + 4) - 48))), upd (cM c) (num T (a + 1) 2) (mnrI (nI (T (a + 3) - 48))), (if mnrI (nI (T (a + 3) - 48)) = 3 then zsd (cF c) (2 ^ (num T (a + 1) 2)) else cF c ||| 2 ^ (num T (a + 1) 2)), cP c) ∧ RC0 h1 (stl c' (S ||| 2 ^ (num T (a + 1) 2))) c' (N + 1) ∧ h1.1 10 0 = upd (h.1 10 0) (num T (a + 1) 2) (nI (T (a + 3) - 48)) ∧ h1.1 11 0 = upd (h.1 11 0) (num T (a + 1) 2) (nI (T (a + 4) - 48)) ∧ zfz eM h h1) ∧ (T a = 120 → RC0 h1 (stl c (zsd S (2 ^ (num T (a + 1) 2)))) c N ∧ zfz eT h h1) ∧ (T a ≠ 115 → T a ≠ 120 → ∃ c' : ZQ5, c' = (cW c, cB c, cM c, cF c, cP c ^^^ 2 ^ (num T (a + 1) 2)) ∧ RC0 h1 (stl c' S) c' (N + 1) ∧ zfz eP h h1))) := by
  refine zC_of (by decide +kernel) (Nat.le_of_ble_eq_true rfl) (L := [zr 0 0, zr 3 dd, zi (nI a), zu, zu]) ⟨rfl, ⟨rfl, ⟨rfl, trivial⟩⟩⟩ ?_
  refine wX11_doStatement_0 hd ?_
  have hz : h.1 3 dd 4 ≤ 100 := by rw [e4]; exact n100 hsz
  obtain ⟨t0, dg, -⟩ := stB_ok ok
  have p1 : nI a + 1 = nI (a + 1) := nI_1 a
  have p2 : nI a + 2 = nI (a + 2) := nI_add a 2
  have p3 : nI a + 3 = nI (a + 3) := nI_add a 3
  have p4 : nI a + 4 = nI (a + 4) := nI_add a 4
  have F : ∀ i, i ≤ 1000 → (shAt h dd (nI i) = 112 ↔ T i = 112) ∧ (shAt h dd (nI i) = 120 ↔ T i = 120) ∧ (tdg (T i) = true → shAt h dd (nI i) - 48 = nI (T i - 48) ∧ T i - 48 < 10) := by
    intro i hi
    have q := tch_is (c := shAt h dd (nI i))
    have e : tch (shAt h dd (nI i)) = T i := tx i hi
    rw [e] at q
    refine ⟨q.2.1, q.2.2.2.1, fun t => ?_⟩
    have := tdg_iff.mp t
    exact ⟨dg_sub (q.2.2.2.2.2 t) this.1, by omega⟩
  have t3 : T a = 115 ∨ T a = 120 ∨ T a = 112 := by
    unfold tdb at t0
    by_cases q : T a = 115
    · exact Or.inl q
    · rw [if_neg q] at t0
      by_cases q2 : T a = 120 ∨ T a = 112
      · exact Or.inr q2
      · rw [if_neg q2] at t0; exact absurd rfl t0
  have l2 : 2 ≤ tdb (T a) := by rcases t3 with q | q | q <;> rw [q] <;> decide
  have D1 := (F (a + 1) (by omega)).2.2 (by have := dg 0 (by omega); exact this)
  have D2 := (F (a + 2) (by omega)).2.2 (by have := dg 1 (by omega); exact this)
  rw [p1, p2, D1.1, D2.1]
  refine ⟨hz, hz, fun y ey => ?_⟩
  have ey' : y = nI (num T (a + 1) 2) := by
    rw [ey, num2, show (10 : Int32) = nI 10 by decide, pk_mul, nI_add]
  have lp : num T (a + 1) 2 ≤ 1000 := by
    rw [num2]
    have := D2.2
    have e : T (a + 1 + 1) = T (a + 2) := rfl
    omega
  subst ey'
  generalize hPP : num T (a + 1) 2 = P at *
  rw [zin_n lp, (F a (by omega)).1, (F a (by omega)).2.1, hR.S]
  refine ⟨fun p12 => ⟨hz, fun n112 => ⟨hz, fun n120 => ⟨hz, ?_⟩, fun t120 => ?_⟩, fun t112 => ?_⟩, fun p12 => Or.inl ⟨Or.inl p12, rfl, rfl⟩⟩
  · have t115 : T a = 115 := t3.resolve_right (by omega)
    have D3 := (F (a + 3) (by omega)).2.2 (by have := dg 2 (by rw [t115]; decide); exact this)
    have D4 := (F (a + 4) (by omega)).2.2 (by have := dg 3 (by rw [t115]; decide); exact this)
    rw [p3, p4, D3.1, D4.1, show (8 : Int32) ≤ nI (T (a + 3) - 48) ↔ 8 ≤ T (a + 3) - 48 from nI_leI (a := 8) (by decide) (by omega), hasI_iff hR.1 (show P < 32 by omega)]
    refine ⟨fun q => absurd q (nI_pos (by omega)), fun _ => ⟨fun k8 => Or.inl ⟨Or.inr (Or.inr ⟨t115, Or.inl k8⟩), rfl, rfl⟩, fun k8 => ⟨fun b => ⟨hz, vpn (by omega) (by decide), ?_⟩, fun b => Or.inl ⟨Or.inr (Or.inr ⟨t115, Or.inr b⟩), rfl, rfl⟩⟩⟩⟩
    rw [nI_cl (show T (a + 3) - 48 ≤ 4096 by omega)]
    refine zC_mono (sX4_lay d hR hN p12 (show T (a + 3) - 48 < 8 by omega)) ?_
    rintro r h1 ⟨c', ec, rfl, rc, r10, r11, fM⟩
    refine ⟨_, rfl, Or.inr ⟨?_, rfl, fun _ => ⟨D4.2, c', ec, rc, r10, r11, fM⟩, fun q => absurd q n120, fun q => absurd t115 q⟩⟩
    rintro (q | ⟨q, _⟩ | ⟨_, q⟩)
    · exact q p12
    · exact n120 q
    · rcases q with q | q
      · exact k8 q
      · exact b q
  · rw [hasI_iff hR.1 (show P < 32 by omega)]
    refine ⟨fun b => ?_, fun b => Or.inl ⟨Or.inr (Or.inl ⟨t120, b⟩), rfl, rfl⟩⟩
    refine zC_mono (sX4_takeOut d hR p12) ?_
    rintro r h1 ⟨rfl, rc, fT⟩
    refine ⟨_, rfl, Or.inr ⟨?_, rfl, fun q => by omega, fun _ => ⟨rc, fT⟩, fun _ q => absurd t120 q⟩⟩
    rintro (q | ⟨_, q⟩ | ⟨q, _⟩)
    · exact q p12
    · exact q b
    · omega
  · refine zC_mono (sX4_turnProp d hR hN p12) ?_
    rintro r h1 ⟨c', ec, rfl, rc, fP⟩
    refine ⟨_, rfl, Or.inr ⟨?_, rfl, fun q => by omega, fun q => by omega, fun _ _ => ⟨c', ec, rc, fP⟩⟩⟩
    rintro (q | ⟨q, _⟩ | ⟨q, _⟩)
    · exact q p12
    · omega
    · omega
