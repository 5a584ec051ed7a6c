/-! ===== felled: the model's way; both ===== -/
theorem j36 {h : ZH} {S k : Nat} {c e : ZQ5} {N : ZN} (j : JX h S c e N) (hk : k = 36 ∨ k = 37) (q : Nat) (v : Int32) : JX (zs1 h k 0 q v) S c e N :=
  j.fm (ex := fun k' _ => decide (k' = k)) (zfx.s1 _ h v (by simp)) (fun k' jj q => by
    unfold eA at q
    simp only [Bool.or_eq_false_iff, decide_eq_false_iff_not] at q ⊢
    omega) (fun _ => by simp; omega) (fun _ => by simp; omega)
theorem nar_0 : vp_nar .boolean 0 = 0 := by decide
theorem nar_1 : vp_nar .boolean 1 = 1 := by decide
def rb (e : ZQ5) (S n : Nat) (A : Nat → Int32) : Prop := ∀ T, T < 4096 → (A T = 0 ∨ A T = 1) ∧ (A T = 1 ↔ rch e S n T)
def srcF (e : ZQ5) (S n : Nat) (P : Nat → Nat → Prop) (U : Nat) : Prop := ∃ T p, P T p ∧ rch e S n T ∧ p < 12 ∧ T.testBit p = true ∧ U = stl e (zsd T (2 ^ p))
theorem srcF_c {e : ZQ5} {S n : Nat} {P P' : Nat → Nat → Prop} (h : ∀ T p, p < 12 → rch e S n T → T.testBit p = true → (P T p ↔ P' T p)) (U : Nat) : srcF e S n P U ↔ srcF e S n P' U := by
  constructor
  · rintro ⟨T, p, a, b, c, d, f⟩
    exact ⟨T, p, (h T p c b d).mp a, b, c, d, f⟩
  · rintro ⟨T, p, a, b, c, d, f⟩
    exact ⟨T, p, (h T p c b d).mpr a, b, c, d, f⟩
def nxF (e : ZQ5) (S n k : Nat) (P : Nat → Nat → Prop) (B : Nat → Int32) : Prop := (∀ U, U < 4096 → (B U = 0 ∨ B U = 1) ∧ (B U = 1 ↔ srcF e S n P U)) ∧ ∀ U, srcF e S n P U → ¬ felC S k (n + 1) U
theorem nxF_c {e : ZQ5} {S n k : Nat} {P P' : Nat → Nat → Prop} {B : Nat → Int32} (h : ∀ T p, p < 12 → rch e S n T → T.testBit p = true → (P T p ↔ P' T p)) (x : nxF e S n k P B) : nxF e S n k P' B :=
  ⟨fun U hU => ⟨(x.1 U hU).1, (x.1 U hU).2.trans (srcF_c h U)⟩, fun U q => x.2 U ((srcF_c h U).mpr q)⟩
set_option maxHeartbeats 1000000 in
theorem pX12_felled {G : ZG} (d : Nat) {h : ZH} {S : Nat} {c e : ZQ5} {N : ZN} (j : JX h S c e N) (x : Int32) : zC G (d + 7) mX12_felled [zr 5 0, zi x] h (fun r h' => ∃ v, r = some (zi v) ∧ ((¬ (1 ≤ x ∧ x ≤ 12) ∧ v = -1) ∨ (∃ k : Nat, k ≤ 12 ∧ 1 ≤ k ∧ x = nI k ∧ isF e S k v)) ∧ JX h' S c e N) := by
  refine zC_of (by decide +kernel) (Nat.le_of_ble_eq_true rfl) (L := [zr 5 0, zi x, zu, zu, zu, zu, zu]) ⟨rfl, ⟨rfl, trivial⟩⟩ ?_
  refine wX12_felled_0 ⟨fun a => ?_, fun a => ⟨_, rfl, Or.inl ⟨a, rfl⟩, j⟩⟩
  obtain ⟨k, hk, rfl⟩ := nI_of2 (x := x) (M := 12) (n := 12) (by decide) (fun q => (fa_of_lt (fa_trans q (show (0 : Int32) ≤ 1 by decide))).2.1 a.1) a.2
  have k1 : 1 ≤ k := (nI_leI (a := 1) (by decide) (by omega)).mp a.1
  have hS := j.lt
  have pS := zpc_le S
  have fin : ∀ {v : Int32} {h' : ZH}, isF e S k v → JX h' S c e N → ∃ v', (some (zi v) : Option ZV) = some (zi v') ∧ ((¬ (1 ≤ nI k ∧ nI k ≤ 12) ∧ v' = -1) ∨ (∃ k' : Nat, k' ≤ 12 ∧ 1 ≤ k' ∧ nI k = nI k' ∧ isF e S k' v')) ∧ JX h' S c e N := fun iv jj => ⟨_, rfl, Or.inr ⟨k, hk, k1, rfl, iv⟩, jj⟩
  rw [j.m0, bitsI_nI hS]
  -- a round of takings
  have outer : ∀ (f n : Nat), f + n = 12 → ∀ h1 : ZH, JX h1 S c e N → rb e S n (h1.1 36 0) → (∀ n' T, n' ≤ n → rch e S n' T → ¬ felC S k n' T) → zT G (d + 7) mX12_felled 60 [zr 5 0, zi (nI k), zi (nI (zpc S)), zi (nI (n + 1)), zu, zu, zu] [] h1 (fun r h' => ∃ v, r = some (zi v) ∧ ((¬ (1 ≤ nI k ∧ nI k ≤ 12) ∧ v = -1) ∨ (∃ k' : Nat, k' ≤ 12 ∧ 1 ≤ k' ∧ nI k = nI k' ∧ isF e S k' v)) ∧ JX h' S c e N) := by
    intro f
    induction f with
    | zero =>
      intro n hn h1 j1 r1 no
      have en : n = 12 := by omega
      subst en
      refine wX12_felled_60 ?_
      refine br_t (nI_lt (by omega) (by decide)) (fin (Or.inl ⟨rfl, fun n' T hr hc => ?_⟩) j1)
      have := (rch_le hS n' T hr).2
      exact no n' T (by omega) hr hc
    | succ f ih =>
      intro n hn h1 j1 r1 no
      refine wX12_felled_60 ?_
      rw [nI_ltI (show zpc S < 2 ^ 31 by omega) (show n + 1 < 2 ^ 31 by omega)]
      refine ⟨fun big => fin (Or.inl ⟨rfl, fun n' T hr hc => ?_⟩) j1, fun big => ?_⟩
      · unfold felC at hc
        exact no n' T (by omega) hr (by unfold felC; exact hc)
      · -- behind the round
        have copyl : ∀ (g m : Nat), g + m = 4096 → ∀ h2 : ZH, JX h2 S c e N → (∀ T, T < m → h2.1 36 0 T = h2.1 37 0 T) → nxF e S n k (fun _ _ => True) (h2.1 37 0) → zT G (d + 7) mX12_felled 184 [zr 5 0, zi (nI k), zi (nI (zpc S)), zi (nI (n + 1)), zi (nI m), zu, zu] [] h2 (fun r h' => ∃ v, r = some (zi v) ∧ ((¬ (1 ≤ nI k ∧ nI k ≤ 12) ∧ v = -1) ∨ (∃ k' : Nat, k' ≤ 12 ∧ 1 ≤ k' ∧ nI k = nI k' ∧ isF e S k' v)) ∧ JX h' S c e N) := by
          intro g
          induction g with
          | zero =>
            intro m hm h2 j2 w2 x2
            have em : m = 4096 := by omega
            subst em
            refine wX12_felled_184 ?_
            refine br_t (by decide) ?_
            rw [nI_1]
            have eqs : ∀ U, srcF e S n (fun _ _ => True) U ↔ rch e S (n + 1) U := fun U => by
              constructor
              · rintro ⟨T, p, _, b, c, d, f⟩
                exact ⟨T, p, b, c, d, f⟩
              · rintro ⟨T, p, b, c, d, f⟩
                exact ⟨T, p, trivial, b, c, d, f⟩
            refine ih (n + 1) (by omega) h2 j2 (fun T hT => ?_) (fun n' T hn' hr => ?_)
            · rw [w2 T hT]
              exact ⟨(x2.1 T hT).1, (x2.1 T hT).2.trans (eqs T)⟩
            · by_cases z : n' = n + 1
              · subst z
                exact x2.2 T ((eqs T).mpr hr)
              · exact no n' T (by omega) hr
          | succ g ihg =>
            intro m hm h2 j2 w2 x2
            have hm' : m < 4096 := by omega
            have vm : vp_in (nI m) 4096 := vpn hm' (by decide)
            refine wX12_felled_184 ?_
            refine br_f (nI_ge (a := m) (b := 4096) hm' (by decide)) ⟨vm, vm, ?_⟩
            rw [nI_cl (show m ≤ 4096 by omega), nI_1]
            have en : vp_nar .boolean (h2.1 37 0 m) = h2.1 37 0 m := by
              rcases (x2.1 m hm').1 with q | q
              · rw [q]; exact nar_0
              · rw [q]; exact nar_1
            rw [en]
            intro h3 e3
            have o37 : h3.1 37 0 = h2.1 37 0 := funext fun y => by rw [e3, zs1_at, if_neg (by simp)]
            refine ihg (m + 1) (by omega) h3 (by rw [e3]; exact j36 j2 (Or.inl rfl) _ _) (fun T hT => ?_) (by rw [o37]; exact x2)
            rw [o37, e3, zs1_at]
            by_cases z : T = m
            · subst z
              rw [if_pos ⟨rfl, rfl, rfl⟩]
            · rw [if_neg (fun q => z q.2.2)]
              exact w2 T (by omega)
        -- all sets
        have sets : ∀ (g m : Nat), g + m = 4096 → ∀ h2 : ZH, JX h2 S c e N → rb e S n (h2.1 36 0) → nxF e S n k (fun T _ => T < m) (h2.1 37 0) → zT G (d + 7) mX12_felled 93 [zr 5 0, zi (nI k), zi (nI (zpc S)), zi (nI (n + 1)), zi (nI m), zu, zu] [] h2 (fun r h' => ∃ v, r = some (zi v) ∧ ((¬ (1 ≤ nI k ∧ nI k ≤ 12) ∧ v = -1) ∨ (∃ k' : Nat, k' ≤ 12 ∧ 1 ≤ k' ∧ nI k = nI k' ∧ isF e S k' v)) ∧ JX h' S c e N) := by
          intro g
          induction g with
          | zero =>
            intro m hm h2 j2 r2 x2
            have em : m = 4096 := by omega
            subst em
            refine wX12_felled_93 ?_
            refine br_t (by decide) ?_
            refine copyl 4096 0 (by decide) h2 j2 (fun T hT => absurd hT (Nat.not_lt_zero T)) (nxF_c (fun T p _ hr _ => ?_) x2)
            have := zle_lt (rch_le hS n T hr).1 hS
            exact ⟨fun _ => trivial, fun _ => this⟩
          | succ g ihg =>
            intro m hm h2 j2 r2 x2
            have hm' : m < 4096 := by omega
            have vm : vp_in (nI m) 4096 := vpn hm' (by decide)
            refine wX12_felled_93 ?_
            refine br_f (nI_ge (a := m) (b := 4096) hm' (by decide)) ?_
            have inner : ∀ (u p : Nat), u + p = 12 → ∀ h3 : ZH, JX h3 S c e N → rb e S n (h3.1 36 0) → nxF e S n k (fun T p' => T < m ∨ (T = m ∧ p' < p)) (h3.1 37 0) → zT G (d + 7) mX12_felled 104 [zr 5 0, zi (nI k), zi (nI (zpc S)), zi (nI (n + 1)), zi (nI m), zi (nI p), zu] [] h3 (fun r h' => ∃ v, r = some (zi v) ∧ ((¬ (1 ≤ nI k ∧ nI k ≤ 12) ∧ v = -1) ∨ (∃ k' : Nat, k' ≤ 12 ∧ 1 ≤ k' ∧ nI k = nI k' ∧ isF e S k' v)) ∧ JX h' S c e N) := by
              intro u
              induction u with
              | zero =>
                intro p hp h3 j3 r3 x3
                have ep : p = 12 := by omega
                subst ep
                refine wX12_felled_104 ?_
                refine br_t (by decide) ?_
                rw [nI_1]
                exact ihg (m + 1) (by omega) h3 j3 r3 (nxF_c (fun T p' hp' _ _ => by omega) x3)
              | succ u ihu =>
                intro p hp h3 j3 r3 x3
                have hp' : p < 12 := by omega
                refine wX12_felled_104 ?_
                refine br_f (nI_ge (a := p) (b := 12) (by omega) (by decide)) ⟨vm, ?_⟩
                rw [nI_cl (show m ≤ 4096 by omega), nI_1, nI_1, hasI_iff hm' (show p < 32 by omega), zi_sh hp']
                refine ⟨fun z0 => ?_, fun z0 => ⟨fun b => ?_, fun b => ?_⟩⟩
                · refine ihg (m + 1) (by omega) h3 j3 r3 (nxF_c (fun T p' hp' hr _ => ?_) x3)
                  have : T ≠ m := by
                    intro q
                    subst q
                    have := (r3 T hm').2.mpr hr
                    rw [z0] at this
                    exact absurd this (by decide)
                  omega
                · have hr : rch e S n m := (r3 m hm').2.mp ((r3 m hm').1.resolve_left z0)
                  refine zC_mono (jX12_leftWithout (U := 2 ^ p) d j3 hm') ?_
                  rintro r h4 ⟨rfl, _, j4, f4⟩
                  refine ⟨_, rfl, ?_⟩
                  have L4 := stl_lt e (zsd_lt (T := 2 ^ p) hm')
                  have e36 : h4.1 36 0 = h3.1 36 0 := f4.row 0 fun _ => eS_no (by decide) (by decide)
                  have e37 : h4.1 37 0 = h3.1 37 0 := f4.row 0 fun _ => eS_no (by decide) (by decide)
                  have hr' : rch e S (n + 1) (stl e (zsd m (2 ^ p))) := ⟨m, p, hr, hp', b, rfl⟩
                  generalize hL : stl e (zsd m (2 ^ p)) = L at *
                  have pL := zpc_le L
                  rw [bitsI_nI L4, felC_i (by omega) (by omega) (by omega) (by omega)]
                  refine ⟨fun nc => ⟨vpn L4 (by decide), ?_⟩, fun yc => ?_⟩
                  · rw [nI_cl (show L ≤ 4096 by omega), nar_1]
                    intro h5 e5
                    refine ihu (p + 1) (by omega) h5 (by rw [e5]; exact j36 j4 (Or.inr rfl) _ _) ?_ ?_
                    · have : h5.1 36 0 = h3.1 36 0 := funext fun y => by rw [e5, zs1_at, if_neg (by simp), e36]
                      rw [this]; exact r3
                    · have at5 : ∀ U, h5.1 37 0 U = if U = L then 1 else h3.1 37 0 U := fun U => by
                        rw [e5, zs1_at]
                        by_cases z : U = L
                        · rw [if_pos ⟨rfl, rfl, z⟩, if_pos z]
                        · rw [if_neg (fun q => z q.2.2), if_neg z, e37]
                      have more : ∀ U, srcF e S n (fun T p' => T < m ∨ (T = m ∧ p' < p + 1)) U ↔ (U = L ∨ srcF e S n (fun T p' => T < m ∨ (T = m ∧ p' < p)) U) := fun U => by
                        constructor
                        · rintro ⟨T, p', a, b', c', d', f'⟩
                          by_cases z : T = m ∧ p' = p
                          · obtain ⟨rfl, rfl⟩ := z
                            exact Or.inl (f'.trans hL)
                          · exact Or.inr ⟨T, p', by omega, b', c', d', f'⟩
                        · rintro (z | ⟨T, p', a, b', c', d', f'⟩)
                          · exact ⟨m, p, by omega, hr, hp', b, z.trans hL.symm⟩
                          · exact ⟨T, p', by omega, b', c', d', f'⟩
                      refine ⟨fun U hU => ?_, fun U hU => ?_⟩
                      · rw [at5, more]
                        by_cases z : U = L
                        · rw [if_pos z]
                          exact ⟨Or.inr rfl, fun _ => Or.inl z, fun _ => rfl⟩
                        · rw [if_neg z]
                          refine ⟨(x3.1 U hU).1, ?_⟩
                          rw [(x3.1 U hU).2]
                          exact ⟨Or.inr, fun q => q.resolve_left z⟩
                      · rcases (more U).mp hU with z | z
                        · rw [z]
                          exact nc
                        · exact x3.2 U z
                  · refine fin (Or.inr ⟨n + 1, L, rfl, hr', Classical.not_not.mp yc, fun n' T hn' hr2 => no n' T (by omega) hr2⟩) j4
                · refine ihu (p + 1) (by omega) h3 j3 r3 (nxF_c (fun T p' _ _ hb => ?_) x3)
                  have : ¬ (T = m ∧ p' = p) := by
                    rintro ⟨rfl, rfl⟩
                    exact b hb
                  omega
            exact inner 12 0 (by decide) h2 j2 r2 (nxF_c (fun T p' _ _ _ => by omega) x2)
        -- the row of the next is made empty
        have clear : ∀ (g m : Nat), g + m = 4096 → ∀ h2 : ZH, JX h2 S c e N → rb e S n (h2.1 36 0) → (∀ T, T < m → h2.1 37 0 T = 0) → zT G (d + 7) mX12_felled 68 [zr 5 0, zi (nI k), zi (nI (zpc S)), zi (nI (n + 1)), zi (nI m), zu, zu] [] h2 (fun r h' => ∃ v, r = some (zi v) ∧ ((¬ (1 ≤ nI k ∧ nI k ≤ 12) ∧ v = -1) ∨ (∃ k' : Nat, k' ≤ 12 ∧ 1 ≤ k' ∧ nI k = nI k' ∧ isF e S k' v)) ∧ JX h' S c e N) := by
          intro g
          induction g with
          | zero =>
            intro m hm h2 j2 r2 w2
            have em : m = 4096 := by omega
            subst em
            refine wX12_felled_68 ?_
            refine br_t (by decide) ?_
            refine sets 4096 0 (by decide) h2 j2 r2 ⟨fun U hU => ?_, fun U q => ?_⟩
            · rw [w2 U hU]
              refine ⟨Or.inl rfl, fun q => absurd q (by decide), fun q => ?_⟩
              obtain ⟨T, p, a, _⟩ := q
              exact absurd a (Nat.not_lt_zero T)
            · obtain ⟨T, p, a, _⟩ := q
              exact absurd a (Nat.not_lt_zero T)
          | succ g ihg =>
            intro m hm h2 j2 r2 w2
            have hm' : m < 4096 := by omega
            refine wX12_felled_68 ?_
            refine br_f (nI_ge (a := m) (b := 4096) hm' (by decide)) ⟨vpn hm' (by decide), ?_⟩
            rw [nI_cl (show m ≤ 4096 by omega), nI_1, nar_0]
            intro h3 e3
            refine ihg (m + 1) (by omega) h3 (by rw [e3]; exact j36 j2 (Or.inr rfl) _ _) ?_ (fun T hT => ?_)
            · have : h3.1 36 0 = h2.1 36 0 := funext fun y => by rw [e3, zs1_at, if_neg (by simp)]
              rw [this]; exact r2
            · rw [e3, zs1_at]
              by_cases z : T = m
              · rw [if_pos ⟨rfl, rfl, z⟩]
              · rw [if_neg (fun q => z q.2.2)]
                exact w2 T (by omega)
        exact clear 4096 0 (by decide) h1 j1 r1 (fun T hT => absurd hT (Nat.not_lt_zero T))
  have init : ∀ (g m : Nat), g + m = 4096 → ∀ h1 : ZH, JX h1 S c e N → (∀ T, T < m → h1.1 36 0 T = if T = S then 1 else 0) → zT G (d + 7) mX12_felled 24 [zr 5 0, zi (nI k), zi (nI (zpc S)), zi (nI m), zu, zu, zu] [] h1 (fun r h' => ∃ v, r = some (zi v) ∧ ((¬ (1 ≤ nI k ∧ nI k ≤ 12) ∧ v = -1) ∨ (∃ k' : Nat, k' ≤ 12 ∧ 1 ≤ k' ∧ nI k = nI k' ∧ isF e S k' v)) ∧ JX h' S c e N) := by
    intro g
    induction g with
    | zero =>
      intro m hm h1 j1 w1
      have em : m = 4096 := by omega
      subst em
      refine wX12_felled_24 ?_
      refine br_t (by decide) ?_
      refine outer 12 0 (by decide) h1 j1 (fun T hT => ?_) (fun n' T hn' hr hc => ?_)
      · rw [w1 T hT]
        by_cases z : T = S
        · rw [if_pos z]
          exact ⟨Or.inr rfl, fun _ => z, fun _ => rfl⟩
        · rw [if_neg z]
          exact ⟨Or.inl rfl, fun q => absurd q (by decide), fun q => absurd q z⟩
      · have en : n' = 0 := by omega
        subst en
        have : T = S := hr
        subst this
        unfold felC at hc
        omega
    | succ g ihg =>
      intro m hm h1 j1 w1
      have hm' : m < 4096 := by omega
      have vm : vp_in (nI m) 4096 := vpn hm' (by decide)
      refine wX12_felled_24 ?_
      refine br_f (nI_ge (a := m) (b := 4096) hm' (by decide)) ?_
      rw [nI_cl (show m ≤ 4096 by omega), nI_1, nar_0, nar_1, j1.m0, zi_inj hm' hS]
      refine ⟨fun q => ⟨vm, fun h2 e2 => ?_⟩, fun q => ⟨vm, fun h2 e2 => ?_⟩⟩
      · refine ihg (m + 1) (by omega) h2 (by rw [e2]; exact j36 j1 (Or.inl rfl) _ _) (fun T hT => ?_)
        rw [e2, zs1_at]
        by_cases z : T = m
        · rw [if_pos ⟨rfl, rfl, z⟩, if_neg (by omega)]
        · rw [if_neg (fun q => z q.2.2)]
          exact w1 T (by omega)
      · refine ihg (m + 1) (by omega) h2 (by rw [e2]; exact j36 j1 (Or.inl rfl) _ _) (fun T hT => ?_)
        rw [e2, zs1_at]
        by_cases z : T = m
        · rw [if_pos ⟨rfl, rfl, z⟩, if_pos (by omega)]
        · rw [if_neg (fun q => z q.2.2)]
          exact w1 T (by omega)
  exact init 4096 0 (by decide) h j (fun T hT => absurd hT (Nat.not_lt_zero T))
theorem felV_one {e : ZQ5} {S : Nat} {x v w : Int32} (a : (¬ (1 ≤ x ∧ x ≤ 12) ∧ v = -1) ∨ (∃ k : Nat, k ≤ 12 ∧ 1 ≤ k ∧ x = nI k ∧ isF e S k v)) (b : (¬ (1 ≤ x ∧ x ≤ 12) ∧ w = -1) ∨ (∃ k : Nat, k ≤ 12 ∧ 1 ≤ k ∧ x = nI k ∧ isF e S k w)) : v = w := by
  have inn : ∀ k : Nat, k ≤ 12 → 1 ≤ k → x = nI k → 1 ≤ x ∧ x ≤ 12 := fun k h1 h2 q => by
    rw [q]
    exact ⟨(nI_leI (a := 1) (by decide) (by omega)).mpr h2, (nI_leI (b := 12) (by omega) (by decide)).mpr h1⟩
  rcases a with ⟨a1, rfl⟩ | ⟨k, h1, h2, q, a⟩
  · rcases b with ⟨_, rfl⟩ | ⟨k, h1, h2, q, _⟩
    · rfl
    · exact absurd (inn k h1 h2 q) a1
  · rcases b with ⟨b1, _⟩ | ⟨k', h1', h2', q', b⟩
    · exact absurd (inn k h1 h2 q) b1
    · rw [q] at q'
      have := (nI_eq (by omega) (by omega)).mp q'
      subst this
      exact isF_one a b
