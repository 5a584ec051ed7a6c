/-! ===== all the calls, on both sides ===== -/
theorem two_q {G : ZG} {D n : Nat} {M1 M2 : ZM} {as : List ZV} {h : ZH} (jy : JY n h) (H : ∀ S c e m, JX h S c e (m, h) → ∃ V : Int32, zC G D M1 (zr 0 0 :: as) h (zJ S c e (m, h) V) ∧ ∀ h1, JX h1 S c e (m, h) → zC G D M2 (zr 5 0 :: as) h1 (zJ S c e (m, h) V)) : zTwo G D M1 M2 as n h := by
  obtain ⟨S, c, e, m, hm, j⟩ := jy
  obtain ⟨V, a, b⟩ := H S c e m j
  refine zC_mono a ?_
  rintro r h1 ⟨rfl, j1⟩
  refine ⟨V, rfl, zC_mono (b h1 j1) ?_⟩
  rintro r h2 ⟨rfl, j2⟩
  exact ⟨rfl, j2.y (show m ≤ n + 200 by omega)⟩
theorem two_ql {G : ZG} {D n : Nat} {M1 M2 : ZM} {as : List ZV} {h : ZH} (jy : JY n h) (H : ∀ S c e m, JX h S c e (m, h) → ∃ V : Int64, zC G D M1 (zr 0 0 :: as) h (zJl S c e (m, h) V) ∧ ∀ h1, JX h1 S c e (m, h) → zC G D M2 (zr 5 0 :: as) h1 (zJl S c e (m, h) V)) : zTwoL G D M1 M2 as n h := by
  obtain ⟨S, c, e, m, hm, j⟩ := jy
  obtain ⟨V, a, b⟩ := H S c e m j
  refine zC_mono a ?_
  rintro r h1 ⟨rfl, j1⟩
  refine ⟨V, rfl, zC_mono (b h1 j1) ?_⟩
  rintro r h2 ⟨rfl, j2⟩
  exact ⟨rfl, j2.y (show m ≤ n + 200 by omega)⟩
theorem two_falls {G : ZG} {n : Nat} {h : ZH} (jy : JY n h) (x w : Int32) : zTwo G 24 mX11_falls mX12_falls [zi x, zi w] n h := two_q jy fun _ _ _ _ j => ⟨_, pX11_falls 18 j x w, fun _ j1 => pX12_falls 17 j1 x w⟩
theorem two_corners {G : ZG} {n : Nat} {h : ZH} (jy : JY n h) (x : Int32) : zTwo G 24 mX11_corners mX12_corners [zi x] n h := two_q jy fun _ _ _ _ j => ⟨_, pX11_corners 17 j x, fun _ j1 => pX12_corners 15 j1 x⟩
theorem two_worst {G : ZG} {n : Nat} {h : ZH} (jy : JY n h) : zTwo G 24 mX11_worst mX12_worst [] n h := two_q jy fun _ _ _ _ j => ⟨_, pX11_worst 16 j, fun _ j1 => pX12_worst 16 j1⟩
theorem two_together {G : ZG} {n : Nat} {h : ZH} (jy : JY n h) (k w : Int32) : zTwo G 24 mX11_together mX12_together [zi k, zi w] n h := two_q jy fun _ _ _ _ j => ⟨_, pX11_together 16 j k w, fun _ j1 => pX12_together 15 j1 k w⟩
theorem two_twins {G : ZG} {n : Nat} {h : ZH} (jy : JY n h) : zTwo G 24 mX11_twins mX12_twins [] n h := two_q jy fun _ _ _ _ j => ⟨_, pX11_twins 17 j, fun _ j1 => pX12_twins 17 j1⟩
theorem two_depends {G : ZG} {n : Nat} {h : ZH} (jy : JY n h) (x : Int32) : zTwo G 24 mX11_depends mX12_depends [zi x] n h := two_q jy fun _ _ _ _ j => ⟨_, pX11_depends 17 j x, fun _ j1 => pX12_depends 17 j1 x⟩
theorem two_mostLoad {G : ZG} {n : Nat} {h : ZH} (jy : JY n h) (w : Int32) : zTwo G 24 mX11_mostLoad mX12_mostLoad [zi w] n h := two_q jy fun _ _ _ _ j => ⟨_, pX11_mostLoad 18 j w, fun _ j1 => pX12_mostLoad 19 j1 w⟩
theorem two_more {G : ZG} {n : Nat} {h : ZH} (jy : JY n h) (x : Int32) : zTwo G 24 mX11_more mX12_more [zi x] n h := two_q jy fun _ _ _ _ j => ⟨_, pX11_more 19 j x, fun _ j1 => pX12_more 19 j1 x⟩
theorem two_count {G : ZG} {n : Nat} {h : ZH} (jy : JY n h) (x : Int32) : zTwo G 24 mX11_count mX12_count [zi x] n h := two_q jy fun _ _ _ _ j => ⟨_, pX11_count 18 j x, fun _ j1 => pX12_count 19 j1 x⟩
theorem two_lean {G : ZG} {n : Nat} {h : ZH} (jy : JY n h) (w : Int32) : zTwo G 24 mX11_lean mX12_lean [zi w] n h := two_q jy fun _ _ _ _ j => ⟨_, pX11_lean 19 j w, fun _ j1 => pX12_lean 20 j1 w⟩
theorem two_highest {G : ZG} {n : Nat} {h : ZH} (jy : JY n h) (w : Int32) : zTwo G 24 mX11_highest mX12_highest [zi w] n h := two_q jy fun _ _ _ _ j => ⟨_, pX11_highest 19 j w, fun _ j1 => pX12_highest 22 j1 w⟩
theorem two_cut {G : ZG} {n : Nat} {h : ZH} (jy : JY n h) (x : Int32) : zTwo G 24 mX11_cut mX12_cut [zi x] n h := two_q jy fun _ _ _ _ j => ⟨_, pX11_cut 18 j x, fun _ j1 => pX12_cut 17 j1 x⟩
theorem two_toGround {G : ZG} {n : Nat} {h : ZH} (jy : JY n h) : zTwo G 24 mX11_toGround mX12_toGround [] n h := two_q jy fun _ _ _ _ j => ⟨_, pX11_toGround 18 j, fun _ j1 => pX12_toGround 17 j1⟩
theorem two_judge {G : ZG} {n : Nat} {h : ZH} (jy : JY n h) (x : Int32) : zTwo G 24 mX11_judge mX12_judge [zi x] n h := two_q jy fun _ _ _ _ j => ⟨_, pX11_judge 17 j x, fun _ j1 => pX12_judge 16 j1 x⟩
theorem two_raids {G : ZG} {n : Nat} {h : ZH} (jy : JY n h) (n1 z w : Int32) : zTwo G 24 mX11_raids mX12_raids [zi n1, zi z, zi w] n h := two_q jy fun _ _ _ _ j => ⟨_, pX11_raids 18 j n1 z w, fun _ j1 => pX12_raids 17 j1 n1 z w⟩
theorem two_tins {G : ZG} {n : Nat} {h : ZH} (jy : JY n h) (x w : Int32) : zTwo G 24 mX11_tins mX12_tins [zi x, zi w] n h := two_q jy fun _ _ _ _ j => ⟨_, pX11_tins 12 j x w, fun _ j1 => pX12_tins 11 j1 x w⟩
theorem two_forged {G : ZG} {n : Nat} {h : ZH} (jy : JY n h) (x : Int32) : zTwo G 24 mX11_forged mX12_forged [zi x] n h := two_q jy fun _ _ _ _ j => ⟨_, pX11_forged 12 j x, fun _ j1 => pX12_forged 11 j1 x⟩
theorem two_which {G : ZG} {n : Nat} {h : ZH} (jy : JY n h) (x w : Int32) : zTwo G 24 mX11_which mX12_which [zi x, zi w] n h := two_q jy fun _ _ _ _ j => ⟨_, pX11_which 18 j x w, fun _ j1 => pX12_which 15 j1 x w⟩
theorem two_longest {G : ZG} {n : Nat} {h : ZH} (jy : JY n h) (w : Int32) : zTwo G 24 mX11_longest mX12_longest [zi w] n h := two_q jy fun _ _ _ _ j => ⟨_, pX11_longest 4 j w, fun _ j1 => pX12_longest 15 j1 w⟩
theorem two_game {G : ZG} {n : Nat} {h : ZH} (jy : JY n h) (w : Int32) : zTwo G 24 mX11_game mX12_game [zi w] n h := two_q jy fun _ _ _ _ j => ⟨_, pX11_game 4 j w, fun _ j1 => pX12_game 15 j1 w⟩
theorem two_propsWanted {G : ZG} {n : Nat} {h : ZH} (jy : JY n h) : zTwo G 24 mX11_propsWanted mX12_propsWanted [] n h := two_q jy fun _ _ _ _ j => ⟨_, pX11_propsWanted 16 j, fun _ j1 => pX12_propsWanted 15 j1⟩
theorem two_tapNext {G : ZG} {n : Nat} {h : ZH} (jy : JY n h) (x : Int32) : zTwo G 24 mX11_tapNext mX12_tapNext [zi x] n h := two_q jy fun _ _ _ _ j => ⟨_, pX11_tapNext 17 j x, fun _ j1 => pX12_tapNext 15 j1 x⟩
theorem two_bombs {G : ZG} {n : Nat} {h : ZH} (jy : JY n h) (x k w : Int32) : zTwoL G 24 mX11_bombs mX12_bombs [zi x, zi k, zi w] n h := two_ql jy fun _ _ _ _ j => ⟨_, pX11_bombs 18 j x k w, fun _ j1 => pX12_bombs 17 j1 x k w⟩
theorem stoneV_30 {h h1 : ZH} {e : ZQ5} {S : Nat} {x w : Int32} (a : h1.1 30 0 = h.1 30 0) : stoneV h1 e S x w = stoneV h e S x w := by
  have k : kindI h1 x = kindI h x := by unfold kindI; rw [a]
  have f : figI h1 x = figI h x := by unfold figI; rw [a]
  unfold stoneV
  rw [k, f]
theorem two_stone {G : ZG} {n : Nat} {h : ZH} (jy : JY n h) (x w : Int32) : zTwo G 24 mX11_stone mX12_stone [zi x, zi w] n h := two_q jy fun S c e m j => ⟨_, zC_mono (pX11_stone 19 j x w) (fun _ _ q => q.1), fun h1 j1 => by
  have a : h1.1 30 0 = h.1 30 0 := funext fun y => (j1.sn 30 0 y (eA_no (by omega))).1
  rw [← stoneV_30 a]
  exact pX12_stone 19 j1 x w⟩
theorem two_cost {G : ZG} {n : Nat} {h : ZH} (jy : JY n h) (x : Int32) : zTwo G 24 mX11_cost mX12_cost [zi x] n h := by
  obtain ⟨S, c, e, m, hm, j⟩ := jy
  refine zC_mono (pX11_cost 20 j.sh x) ?_
  rintro r h1 ⟨rfl, e1⟩
  rw [e1]
  refine ⟨_, rfl, zC_mono (pX12_cost 20 j.sh x) ?_⟩
  rintro r h2 ⟨rfl, e2⟩
  rw [e2]
  exact ⟨rfl, j.y (show m ≤ n + 200 by omega)⟩
theorem two_felled {G : ZG} {n : Nat} {h : ZH} (jy : JY n h) (x : Int32) : zTwo G 24 mX11_felled mX12_felled [zi x] n h := by
  obtain ⟨S, c, e, m, hm, j⟩ := jy
  refine zC_mono (pX11_felled 17 j x) ?_
  rintro r h1 ⟨v, rfl, a, j1⟩
  refine ⟨v, rfl, zC_mono (pX12_felled 17 j1 x) ?_⟩
  rintro r h2 ⟨w, rfl, b, j2⟩
  rw [felV_one b a]
  exact ⟨rfl, j2.y (show m ≤ n + 200 by omega)⟩
theorem two_takes {G : ZG} {n : Nat} {h : ZH} (jy : JY n h) (x : Int32) : zTwo G 24 mX11_takes mX12_takes [zi x] n h := by
  obtain ⟨S, c, e, m, hm, j⟩ := jy
  refine zC_mono (pX11_takes 18 j x) ?_
  rintro r h1 ⟨rfl, rc, fT⟩
  have m1 : RM0 h1 S e := j.m.fr (funext fun y => (fT 30 0 y (by unfold eT; simp)).1)
  refine ⟨_, rfl, zC_mono (pX12_takes 17 m1 x) ?_⟩
  rintro r h2 ⟨rfl, ⟨e', rm, q⟩, fm, a⟩
  exact ⟨rfl, (j.takes x fT rc fm rm q a).y (show m ≤ n + 200 by omega)⟩
theorem two_props {G : ZG} {n : Nat} {h : ZH} (hn : n + 200 < 2 ^ 30) (jy : JY n h) (x : Int32) : zTwo G 24 mX11_props mX12_props [zi x] n h := by
  obtain ⟨S, c, e, m, hm, j⟩ := jy
  refine zC_mono (pX11_props 18 j (show m + 1 < 2 ^ 30 by omega) x) ?_
  rintro r h1 ⟨rfl, ⟨k, hk, rc⟩, fP⟩
  have hk' : k ≤ m + 1 := hk
  have m1 : RM0 h1 S e := j.m.fr (funext fun y => (fP 30 0 y (by unfold eP; simp)).1)
  refine ⟨_, rfl, zC_mono (pX12_props 18 m1 x) ?_⟩
  rintro r h2 ⟨rfl, ⟨e', rm, q⟩, fm, a⟩
  exact ⟨rfl, (j.props x fP rc fm rm q a).y (show k ≤ n + 200 by omega)⟩
theorem two_keep {G : ZG} {n : Nat} {h : ZH} (jy : JY n h) (x w k f : Int32) : zTwo G 24 mX11_keep mX12_keep [zi x, zi w, zi k, zi f] n h := by
  obtain ⟨S, c, e, m, hm, j⟩ := jy
  refine zC_mono (pX11_keep 22 x w k f) ?_
  rintro r h1 (⟨no, rfl, e1⟩ | ⟨ok, rfl, fc, c4, c0, c1⟩)
  · rw [e1]
    refine ⟨_, rfl, zC_mono (pX12_keep 21 x w k f) ?_⟩
    rintro r h2 (⟨_, rfl, e2⟩ | ⟨ok, _⟩)
    · rw [e2]
      exact ⟨rfl, j.y (show m ≤ n + 200 by omega)⟩
    · exact absurd ok no
  · refine ⟨_, rfl, zC_mono (pX12_keep 21 x w k f) ?_⟩
    rintro r h2 (⟨no, _⟩ | ⟨_, rfl, fm, m38, m39, m40⟩)
    · exact absurd ok no
    · exact ⟨rfl, (j.keep ok fc c4 c0 c1 fm m38 m39 m40).y (show m ≤ n + 200 by omega)⟩
theorem two_row {G : ZG} {n : Nat} {h : ZH} (jy : JY n h) (x s k : Int32) : zTwo G 24 mX11_row mX12_row [zi x, zi s, zi k] n h := by
  obtain ⟨S, c, e, m, hm, j⟩ := jy
  refine zC_mono (pX11_row 21 x s k) ?_
  rintro r h1 (⟨no, rfl, e1⟩ | ⟨ok, n0, rfl, e1⟩ | ⟨ok, n0, rfl, fc, c0, c3, c4, ce⟩)
  · rw [e1]
    refine ⟨_, rfl, zC_mono (pX12_row 21 x s k) ?_⟩
    rintro r h2 (⟨_, rfl, e2⟩ | ⟨ok, _⟩ | ⟨ok, _⟩)
    · rw [e2]
      exact ⟨rfl, j.y (show m ≤ n + 200 by omega)⟩
    · exact absurd ok no
    · exact absurd ok no
  · rw [e1]
    refine ⟨_, rfl, zC_mono (pX12_row 21 x s k) ?_⟩
    rintro r h2 (⟨no, _⟩ | ⟨_, _, rfl, e2⟩ | ⟨_, y, _⟩)
    · exact absurd ok no
    · rw [e2]
      exact ⟨rfl, j.y (show m ≤ n + 200 by omega)⟩
    · exact absurd y n0
  · refine ⟨_, rfl, zC_mono (pX12_row 21 x s k) ?_⟩
    rintro r h2 (⟨no, _⟩ | ⟨_, y, _⟩ | ⟨_, _, rfl, fm, m38, m41, m42, me⟩)
    · exact absurd ok no
    · exact absurd n0 y
    · exact ⟨rfl, (j.row ok n0 fc c0 c3 c4 ce fm m38 m41 m42 me).y (show m ≤ n + 200 by omega)⟩
