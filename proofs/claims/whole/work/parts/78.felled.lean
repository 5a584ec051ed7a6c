/-! ===== felled: what takings lead to; the class's way ===== -/
def rch (e : ZQ5) (S : Nat) : Nat → Nat → Prop
  | 0, T => T = S
  | n + 1, T => ∃ U p, rch e S n U ∧ p < 12 ∧ U.testBit p = true ∧ T = stl e (zsd U (2 ^ p))
theorem tk_pc {e : ZQ5} {U p : Nat} (hU : U < 4096) (hb : U.testBit p = true) : zpc (stl e (zsd U (2 ^ p))) + 1 ≤ zpc U := by
  have := zsd_pc hU hb
  have := zpc_mono (stl_le e (zsd_lt (T := 2 ^ p) hU))
  omega
theorem tk_lt {e : ZQ5} {U p : Nat} (hU : U < 4096) (hb : U.testBit p = true) : stl e (zsd U (2 ^ p)) < U := by
  have h1 := zle_le (stl_sub (e := e) (U := 2 ^ p) hU (zle_rf U))
  rcases Nat.lt_or_ge (stl e (zsd U (2 ^ p))) U with q | q
  · exact q
  · exfalso
    have := tk_pc (e := e) hU hb
    rw [Nat.le_antisymm h1 q] at this
    omega
theorem rch_le {e : ZQ5} {S : Nat} (hS : S < 4096) : ∀ n T, rch e S n T → zle T S ∧ n + zpc T ≤ zpc S := by
  intro n
  induction n with
  | zero =>
    intro T h
    have : T = S := h
    subst this
    exact ⟨zle_rf _, by omega⟩
  | succ n ih =>
    rintro T ⟨U, p, hr, hp, hb, rfl⟩
    obtain ⟨a, b⟩ := ih U hr
    have := tk_pc (e := e) (zle_lt a hS) hb
    exact ⟨stl_sub hS a, by omega⟩
theorem n4_ne' (w : Nat) (hw : w ≤ 100) : ¬ nI w = -4 := by
  have : ∀ w, w < 101 → ¬ nI w = -4 := by decide
  exact this w (by omega)
def felC (S k n T : Nat) : Prop := k + n + zpc T ≤ zpc S
def isF (e : ZQ5) (S k : Nat) (v : Int32) : Prop := (v = -4 ∧ ∀ n T, rch e S n T → ¬ felC S k n T) ∨ (∃ n T, v = nI n ∧ rch e S n T ∧ felC S k n T ∧ ∀ n' T', n' < n → rch e S n' T' → ¬ felC S k n' T')
theorem isF_one {e : ZQ5} {S k : Nat} {v w : Int32} (a : isF e S k v) (b : isF e S k w) : v = w := by
  rcases a with ⟨rfl, a⟩ | ⟨n, T, rfl, a1, a2, a3⟩
  · rcases b with ⟨rfl, b⟩ | ⟨m, U, rfl, b1, b2, b3⟩
    · rfl
    · exact absurd b2 (a m U b1)
  · rcases b with ⟨rfl, b⟩ | ⟨m, U, rfl, b1, b2, b3⟩
    · exact absurd a2 (b n T a1)
    · rcases Nat.lt_trichotomy n m with q | q | q
      · exact absurd a2 (b3 n T q a1)
      · rw [q]
      · exact absurd b2 (a3 m U q b1)
theorem felC_i {a b c k : Nat} (ha : a ≤ 4096) (hb : b ≤ 4096) (hc : c ≤ 4096) (hk : k ≤ 4096) : (nI a - nI b) - nI c < nI k ↔ ¬ (k + b + c ≤ a) := by
  have e1 : (nI a - nI b).toInt = (a : Int) - b := pk_sub_toInt (by omega) (by omega)
  have e2 : (nI c).toInt = c := nI_toInt (by omega)
  have e3 : (nI k).toInt = k := nI_toInt (by omega)
  rw [fa_lt, fb_subI (by rw [e1, e2]; omega) (by rw [e1, e2]; omega), e1, e2, e3]
  omega
def fw1 (e : ZQ5) (S : Nat) (A : Nat → Int32) : Prop := ∀ T, T < 4096 → A T = -1 ∨ ∃ w, A T = nI w ∧ rch e S w T
def fw3 (e : ZQ5) (S : Nat) (A : Nat → Int32) (s : Nat) : Prop := ∀ U, s < U → ∀ n, rch e S n U → ∀ p, p < 12 → U.testBit p = true → ∃ w, A (stl e (zsd U (2 ^ p))) = nI w ∧ w ≤ n + 1
theorem fw_min {e : ZQ5} {S s n : Nat} {A : Nat → Int32} (hS : S < 4096) (f3 : fw3 e S A s) (f2 : A S = nI 0) (hr : rch e S n s) : ∃ w, A s = nI w ∧ w ≤ n := by
  cases n with
  | zero =>
    have : s = S := hr
    subst this
    exact ⟨0, f2, Nat.le_refl _⟩
  | succ n =>
    obtain ⟨U, p, hu, hp, hb, rfl⟩ := hr
    exact f3 U (tk_lt (zle_lt (rch_le hS n U hu).1 hS) hb) n hu p hp hb
theorem j18 {h : ZH} {S : Nat} {c e : ZQ5} {N : ZN} (j : JX h S c e N) (q : Nat) (v : Int32) : JX (zs1 h 18 0 q v) S c e N :=
  j.fm (ex := fun k _ => decide (k = 18)) (zfx.s1 _ h v (by simp)) (fun k jj q => by
    unfold eA at q
    simp only [Bool.or_eq_false_iff, decide_eq_false_iff_not] at q ⊢
    omega) (fun _ => by simp) (fun _ => by simp)
set_option maxHeartbeats 1000000 in
theorem jX3_spread {G : ZG} (d : Nat) {h : ZH} {S s w0 : Nat} {c e : ZQ5} {N : ZN} (j : JX h S c e N) (hr : rch e S w0 s) (f1 : fw1 e S (h.1 18 0)) (f2 : h.1 18 0 S = nI 0) (fs : h.1 18 0 s = nI w0) : zC G (d + 5) mX3_spreadTakings [zr 1 0, zi (nI s)] h (fun r h' => r = none ∧ JX h' S c e N ∧ fw1 e S (h'.1 18 0) ∧ h'.1 18 0 S = nI 0 ∧ (∀ T w, w ≤ 100 → h.1 18 0 T = nI w → ∃ w', w' ≤ w ∧ h'.1 18 0 T = nI w') ∧ (∀ p, p < 12 → s.testBit p = true → ∃ w', w' ≤ w0 + 1 ∧ h'.1 18 0 (stl e (zsd s (2 ^ p))) = nI w')) := by
  refine zC_of (by decide +kernel) (Nat.le_of_ble_eq_true rfl) (L := [zr 1 0, zi (nI s), zu, zu]) ⟨rfl, ⟨rfl, trivial⟩⟩ ?_
  refine wX3_spreadTakings_0 ?_
  have hS := j.lt
  obtain ⟨hs, hw⟩ := rch_le hS w0 s hr
  have hs4 := zle_lt hs hS
  have pS := zpc_le S
  have sS := zle_le hs
  have key : ∀ (f m : Nat), f + m = 12 → ∀ h1 : ZH, JX h1 S c e N → fw1 e S (h1.1 18 0) → h1.1 18 0 S = nI 0 → h1.1 18 0 s = nI w0 → (∀ T w, w ≤ 100 → h.1 18 0 T = nI w → ∃ w', w' ≤ w ∧ h1.1 18 0 T = nI w') → (∀ p, p < m → s.testBit p = true → ∃ w', w' ≤ w0 + 1 ∧ h1.1 18 0 (stl e (zsd s (2 ^ p))) = nI w') → zT G (d + 5) mX3_spreadTakings 2 [zr 1 0, zi (nI s), zi (nI m), zu] [] h1 (fun r h' => r = none ∧ JX h' S c e N ∧ fw1 e S (h'.1 18 0) ∧ h'.1 18 0 S = nI 0 ∧ (∀ T w, w ≤ 100 → h.1 18 0 T = nI w → ∃ w', w' ≤ w ∧ h'.1 18 0 T = nI w') ∧ (∀ p, p < 12 → s.testBit p = true → ∃ w', w' ≤ w0 + 1 ∧ h'.1 18 0 (stl e (zsd s (2 ^ p))) = nI w')) := by
    intro f
    induction f with
    | zero =>
      intro m hm h1 j1 g1 g2 gs g3 g4
      have em : m = 12 := by omega
      subst em
      refine wX3_spreadTakings_2 ?_
      exact br_t (by decide) ⟨rfl, j1, g1, g2, g3, g4⟩
    | succ f ih =>
      intro m hm h1 j1 g1 g2 gs g3 g4
      have hm' : m < 12 := by omega
      refine wX3_spreadTakings_2 ?_
      refine br_f (nI_ge (a := m) (b := 12) (by omega) (by decide)) ?_
      rw [zbit0 hs4 (show m < 32 by omega), nI_1]
      refine ⟨fun b => ?_, fun b => ?_⟩
      · have b' := Classical.not_not.mp b
        rw [zsd_p hs4 hm']
        refine zC_mono (jX3_leftOf d j1 (zle_sd hs4 hs)) ?_
        rintro r h2 ⟨rfl, j2, q2⟩
        have e18 : h2.1 18 0 = h1.1 18 0 := funext fun x => (q2 18 0 x (eF_no (by decide) (by decide) (by decide))).1
        have lt := tk_lt (e := e) hs4 b'
        have hr' : rch e S (w0 + 1) (stl e (zsd s (2 ^ m))) := ⟨s, m, hr, hm', b', rfl⟩
        have hw' := (rch_le hS _ _ hr').2
        generalize hL : stl e (zsd s (2 ^ m)) = L at *
        have vL : vp_in (nI L) 4096 := vpn (by omega) (by decide)
        have vs : vp_in (nI s) 4096 := vpn (by omega) (by decide)
        rw [e18]
        refine ⟨_, rfl, ?_⟩
        rw [nI_cl (show L ≤ 4096 by omega), nI_cl (show s ≤ 4096 by omega), gs, nI_1]
        -- what a new number there does
        have new : (∀ w, w ≤ 100 → h.1 18 0 L = nI w → w0 + 1 ≤ w) → ∀ h4 : ZH, h4 = zs1 h2 18 0 L (nI (w0 + 1)) → zT G (d + 5) mX3_spreadTakings 2 [zr 1 0, zi (nI s), zi (nI (m + 1)), zu] [] h4 (fun r h' => r = none ∧ JX h' S c e N ∧ fw1 e S (h'.1 18 0) ∧ h'.1 18 0 S = nI 0 ∧ (∀ T w, w ≤ 100 → h.1 18 0 T = nI w → ∃ w', w' ≤ w ∧ h'.1 18 0 T = nI w') ∧ (∀ p, p < 12 → s.testBit p = true → ∃ w', w' ≤ w0 + 1 ∧ h'.1 18 0 (stl e (zsd s (2 ^ p))) = nI w')) := by
          intro hw h4 e4
          have at4 : ∀ T, h4.1 18 0 T = if T = L then nI (w0 + 1) else h1.1 18 0 T := fun T => by
            rw [e4, zs1_at]
            by_cases z : T = L
            · rw [if_pos ⟨rfl, rfl, z⟩, if_pos z]
            · rw [if_neg (fun q => z q.2.2), if_neg z, e18]
          refine ih (m + 1) (by omega) h4 (by rw [e4]; exact j18 j2 _ _) ?_ ?_ ?_ ?_ ?_
          · intro T hT
            rw [at4]
            by_cases z : T = L
            · subst z
              rw [if_pos rfl]
              exact Or.inr ⟨w0 + 1, rfl, hr'⟩
            · rw [if_neg z]; exact g1 T hT
          · rw [at4, if_neg (by omega)]; exact g2
          · rw [at4, if_neg (by omega)]; exact gs
          · intro T w hw1 hT
            rw [at4]
            by_cases z : T = L
            · subst z
              rw [if_pos rfl]
              exact ⟨w0 + 1, hw w hw1 hT, rfl⟩
            · rw [if_neg z]; exact g3 T w hw1 hT
          · intro p hp hb
            by_cases z : stl e (zsd s (2 ^ p)) = L
            · rw [z, at4, if_pos rfl]
              exact ⟨w0 + 1, Nat.le_refl _, rfl⟩
            · rw [at4, if_neg z]
              have : p ≠ m := fun q => z (by rw [q]; exact hL)
              exact g4 p (by omega) hb
        refine ⟨vL, fun u => ⟨vs, vL, new fun w hw1 hT => ?_⟩, fun u => ⟨vL, vs, fun le => ?_, fun le => ⟨vs, vL, new fun w hw1 hT => ?_⟩⟩⟩
        · obtain ⟨w', _, ew⟩ := g3 L w hw1 hT
          rw [ew] at u
          exact absurd u (nI_neg1 (by omega))
        · obtain ⟨w1, ew, hr1⟩ := (g1 L (by omega)).resolve_left u
          have hw1 := (rch_le hS w1 L hr1).2
          rw [ew, nI_leI (by omega) (by omega)] at le
          refine ih (m + 1) (by omega) h2 j2 (by rw [e18]; exact g1) (by rw [e18]; exact g2) (by rw [e18]; exact gs) (by rw [e18]; exact g3) (fun p hp hb => ?_)
          rw [e18]
          by_cases z : p = m
          · subst z
            rw [hL]
            exact ⟨w1, le, ew⟩
          · exact g4 p (by omega) hb
        · obtain ⟨w', hw', ew⟩ := g3 L w hw1 hT
          rw [ew, nI_leI (by omega) (by omega)] at le
          omega
      · refine ih (m + 1) (by omega) h1 j1 g1 g2 gs g3 (fun p hp hb => ?_)
        by_cases z : p = m
        · subst z
          exact absurd hb b
        · exact g4 p (by omega) hb
  exact key 12 0 (by decide) h j f1 f2 fs (fun T w _ hT => ⟨w, Nat.le_refl _, hT⟩) (fun p hp => absurd hp (Nat.not_lt_zero p))
set_option maxHeartbeats 1000000 in
theorem jX3_fewestTakings {G : ZG} (d : Nat) {h : ZH} {S k : Nat} {c e : ZQ5} {N : ZN} (j : JX h S c e N) (hk : k ≤ 12) : zC G (d + 6) mX3_fewestTakings [zr 1 0, zi (nI k)] h (fun r h' => ∃ v, r = some (zi v) ∧ isF e S k v ∧ JX h' S c e N) := by
  refine zC_of (by decide +kernel) (Nat.le_of_ble_eq_true rfl) (L := [zr 1 0, zi (nI k), zu, zu, zu]) ⟨rfl, ⟨rfl, trivial⟩⟩ ?_
  refine wX3_fewestTakings_0 ?_
  have hS := j.lt
  refine zC_mono (sJ7_fillI (n := 4096) (d + 4) rfl (by decide)) ?_
  rintro r h1 ⟨rfl, e1⟩
  refine ⟨rfl, ?_⟩
  have j1 : JX h1 S c e N := by
    refine j.fm (ex := fun k _ => decide (k = 18)) ?_ (fun k jj q => ?_) (fun _ => by simp) (fun _ => by simp)
    · rw [e1]
      exact zfx.R _ h _ (fun _ => by simp)
    · unfold eA at q
      simp only [Bool.or_eq_false_iff, decide_eq_false_iff_not] at q ⊢
      omega
  rw [j1.st6, nI_cl (show S ≤ 4096 by omega)]
  refine ⟨vpn hS (by decide), ?_⟩
  intro h3 e3
  have j3 : JX h3 S c e N := by rw [e3]; exact j18 j1 _ _
  rw [j3.st6]
  have at3 : ∀ T, T < 4096 → h3.1 18 0 T = if T = S then 0 else -1 := fun T hT => by
    rw [e3, zs1_at]
    by_cases z : T = S
    · rw [if_pos ⟨rfl, rfl, z⟩, if_pos z]
    · rw [if_neg (fun q => z q.2.2), if_neg z, e1, zsR_at, if_pos ⟨rfl, rfl⟩]
      unfold zfl
      rw [if_pos hT]
  have pS := zpc_le S
  -- the end: the least of all
  have last : ∀ (h4 : ZH), JX h4 S c e N → fw1 e S (h4.1 18 0) → (∀ n T, rch e S n T → ∃ w, h4.1 18 0 T = nI w ∧ w ≤ n) → ∀ (f m : Nat), f + m = 4096 → ∀ v : Int32, ((v = -4 ∧ ∀ T w, T < m → w ≤ 100 → h4.1 18 0 T = nI w → ¬ felC S k w T) ∨ (∃ w T, v = nI w ∧ rch e S w T ∧ felC S k w T ∧ ∀ T' w', T' < m → w' ≤ 100 → h4.1 18 0 T' = nI w' → felC S k w' T' → w ≤ w')) → zT G (d + 6) mX3_fewestTakings 62 [zr 1 0, zi (nI k), zi v, zi (nI m), zu] [] h4 (fun r h' => ∃ v, r = some (zi v) ∧ isF e S k v ∧ JX h' S c e N) := by
    intro h4 j4 g1 gm f
    induction f with
    | zero =>
      intro m hm v iv
      have em : m = 4096 := by omega
      subst em
      refine wX3_fewestTakings_62 ?_
      refine br_t (by decide) ⟨_, rfl, ?_, j4⟩
      have all : ∀ n T, rch e S n T → felC S k n T → ∃ w, w ≤ n ∧ w ≤ 100 ∧ T < 4096 ∧ h4.1 18 0 T = nI w ∧ felC S k w T := fun n T hr hc => by
        obtain ⟨w, ew, hw⟩ := gm n T hr
        have rl := rch_le hS n T hr
        refine ⟨w, hw, by omega, zle_lt rl.1 hS, ew, ?_⟩
        unfold felC at hc ⊢
        omega
      rcases iv with ⟨rfl, iv⟩ | ⟨w, T, rfl, hr, hc, iv⟩
      · refine Or.inl ⟨rfl, fun n T hr hc => ?_⟩
        obtain ⟨w, _, w1, tl, ew, hc'⟩ := all n T hr hc
        exact iv T w tl w1 ew hc'
      · refine Or.inr ⟨w, T, rfl, hr, hc, fun n' T' hn hr' hc' => ?_⟩
        obtain ⟨w', wl, w1, tl, ew, hc2⟩ := all n' T' hr' hc'
        have := iv T' w' tl w1 ew hc2
        omega
    | succ f ih =>
      intro m hm v iv
      have hm' : m < 4096 := by omega
      have vm : vp_in (nI m) 4096 := vpn hm' (by decide)
      refine wX3_fewestTakings_62 ?_
      refine br_f (nI_nlt (b := m) (a := 4095) (by omega) (by decide)) ⟨vm, ?_⟩
      rw [nI_cl (show m ≤ 4096 by omega), nI_1, j4.st6, bcI_nI hS, bcI_nI hm']
      have pm := zpc_le m
      refine ⟨fun u => ?_, fun u => ?_⟩
      · obtain ⟨w1, ew, hr1⟩ := (g1 m hm').resolve_left u
        have hw1 := (rch_le hS w1 m hr1).2
        rw [ew]
        refine ⟨vm, fun y ey => ?_⟩
        subst ey
        rw [felC_i (by omega) (by omega) (by omega) (by omega)]
        have same : ∀ w, w ≤ 100 → h4.1 18 0 m = nI w → w = w1 := fun w hw q => by
          rw [ew] at q
          exact ((nI_eq (by omega) (by omega)).mp q).symm
        have fc : (k + zpc m + w1 ≤ zpc S) ↔ felC S k w1 m := by unfold felC; omega
        rw [fc]
        refine ⟨fun nc => ih (m + 1) (by omega) v ?_, fun yc => ?_⟩
        · rcases iv with ⟨rfl, iv⟩ | ⟨w, T, rfl, hr, hc, iv⟩
          · refine Or.inl ⟨rfl, fun T w tl w1 q => ?_⟩
            by_cases z : T = m
            · subst z
              rw [same w w1 q]
              exact nc
            · exact iv T w (by omega) w1 q
          · refine Or.inr ⟨w, T, rfl, hr, hc, fun T' w' tl w1 q hc' => ?_⟩
            by_cases z : T' = m
            · subst z
              rw [same w' w1 q] at hc'
              exact absurd hc' nc
            · exact iv T' w' (by omega) w1 q hc'
        · have yc' := Classical.not_not.mp yc
          have take : (∀ T' w', T' < m → w' ≤ 100 → h4.1 18 0 T' = nI w' → felC S k w' T' → w1 ≤ w') → zT G (d + 6) mX3_fewestTakings 62 [zr 1 0, zi (nI k), zi (nI w1), zi (nI (m + 1)), zu] [] h4 (fun r h' => ∃ v, r = some (zi v) ∧ isF e S k v ∧ JX h' S c e N) := by
            intro old
            refine ih (m + 1) (by omega) (nI w1) (Or.inr ⟨w1, m, rfl, hr1, yc', fun T' w' tl w1' q hc' => ?_⟩)
            by_cases z : T' = m
            · subst z
              rw [same w' w1' q]
              exact Nat.le_refl _
            · exact old T' w' (by omega) w1' q hc'
          refine ⟨fun v4 => ⟨vm, take ?_⟩, fun v4 => ⟨vm, fun le => ?_, fun le => ⟨vm, take ?_⟩⟩⟩
          · rcases iv with ⟨_, iv⟩ | ⟨w, T, rfl, hr, hc, iv⟩
            · exact fun T' w' tl w1' q hc' => absurd hc' (iv T' w' tl w1' q)
            · have := (rch_le hS w T hr).2
              exact absurd v4 (n4_ne' w (by omega))
          · rcases iv with ⟨rfl, iv⟩ | ⟨w, T, rfl, hr, hc, iv⟩
            · exact absurd rfl v4
            · have := (rch_le hS w T hr).2
              rw [nI_leI (by omega) (by omega)] at le
              refine ih (m + 1) (by omega) (nI w) (Or.inr ⟨w, T, rfl, hr, hc, fun T' w' tl w1' q hc' => ?_⟩)
              by_cases z : T' = m
              · subst z
                rw [same w' w1' q]
                exact le
              · exact iv T' w' (by omega) w1' q hc'
          · rcases iv with ⟨rfl, iv⟩ | ⟨w, T, rfl, hr, hc, iv⟩
            · exact absurd rfl v4
            · have := (rch_le hS w T hr).2
              rw [nI_leI (by omega) (by omega)] at le
              exact fun T' w' tl w1' q hc' => by
                have := iv T' w' tl w1' q hc'
                omega
      · refine ih (m + 1) (by omega) v ?_
        have none : ∀ w, w ≤ 100 → ¬ h4.1 18 0 m = nI w := fun w hw q => by
          rw [u] at q
          exact nI_neg1 (by omega) q.symm
        rcases iv with ⟨rfl, iv⟩ | ⟨w, T, rfl, hr, hc, iv⟩
        · refine Or.inl ⟨rfl, fun T w tl w1 q => ?_⟩
          by_cases z : T = m
          · subst z
            exact absurd q (none w w1)
          · exact iv T w (by omega) w1 q
        · refine Or.inr ⟨w, T, rfl, hr, hc, fun T' w' tl w1 q hc' => ?_⟩
          by_cases z : T' = m
          · subst z
            exact absurd q (none w' w1)
          · exact iv T' w' (by omega) w1 q hc'
  have key : ∀ (s : Nat), s ≤ S → ∀ h4 : ZH, JX h4 S c e N → fw1 e S (h4.1 18 0) → h4.1 18 0 S = nI 0 → fw3 e S (h4.1 18 0) s → zT G (d + 6) mX3_fewestTakings 32 [zr 1 0, zi (nI k), zi (-4), zi (nI s), zu] [] h4 (fun r h' => ∃ v, r = some (zi v) ∧ isF e S k v ∧ JX h' S c e N) := by
    intro s
    induction s with
    | zero =>
      intro _ h4 j4 g1 g2 g3
      refine wX3_fewestTakings_32 ?_
      refine br_t (by decide) ?_
      refine last h4 j4 g1 (fun n T hr => ?_) 4096 0 (by decide) (-4) (Or.inl ⟨rfl, fun T w tl => absurd tl (Nat.not_lt_zero T)⟩)
      cases n with
      | zero =>
        have : T = S := hr
        subst this
        exact ⟨0, g2, Nat.le_refl _⟩
      | succ n =>
        obtain ⟨U, p, hu, hp, hb, rfl⟩ := hr
        have hU4 := zle_lt (rch_le hS n U hu).1 hS
        have := tk_lt (e := e) hU4 hb
        exact g3 U (by omega) n hu p hp hb
    | succ s ih =>
      intro hs h4 j4 g1 g2 g3
      refine wX3_fewestTakings_32 ?_
      refine br_f (nI_nle (by omega) (by omega)) ⟨vpn (by omega) (by decide), ?_⟩
      rw [nI_cl (show s + 1 ≤ 4096 by omega), pk_m1]
      refine ⟨fun u => ?_, fun u => ?_⟩
      · obtain ⟨w0, ew, hr0⟩ := (g1 (s + 1) (by omega)).resolve_left u
        refine zC_mono (jX3_spread d j4 hr0 g1 g2 ew) ?_
        rintro r h5 ⟨rfl, j5, k1, k2, k3, k4⟩
        refine ⟨rfl, ih (by omega) h5 j5 k1 k2 ?_⟩
        intro U hU n hu p hp hb
        have rl := (rch_le hS n U hu)
        have pU : n ≤ 12 := by omega
        by_cases z : U = s + 1
        · subst z
          obtain ⟨w, ew', hw⟩ := fw_min hS g3 g2 hu
          have ww : w = w0 := by
            rw [ew] at ew'
            have := (rch_le hS w0 _ hr0).2
            exact ((nI_eq (by omega) (by omega)).mp ew').symm
          subst ww
          obtain ⟨w', hw', e'⟩ := k4 p hp hb
          exact ⟨w', e', by omega⟩
        · obtain ⟨w, ew', hw⟩ := g3 U (by omega) n hu p hp hb
          obtain ⟨w', hw', e'⟩ := k3 _ w (by omega) ew'
          exact ⟨w', e', by omega⟩
      · refine ih (by omega) h4 j4 g1 g2 ?_
        intro U hU n hu p hp hb
        by_cases z : U = s + 1
        · subst z
          obtain ⟨w, ew', hw⟩ := fw_min hS g3 g2 hu
          have := (rch_le hS n _ hu).2
          rw [u] at ew'
          exact absurd ew'.symm (nI_neg1 (by omega))
        · exact g3 U (by omega) n hu p hp hb
  refine key S (Nat.le_refl _) h3 j3 ?_ ?_ ?_
  · intro T hT
    rw [at3 T hT]
    by_cases z : T = S
    · rw [if_pos z]
      exact Or.inr ⟨0, rfl, z⟩
    · rw [if_neg z]
      exact Or.inl rfl
  · rw [at3 S hS, if_pos rfl]
    rfl
  · intro U hU n hu
    have := zle_le (rch_le hS n U hu).1
    omega
theorem pX11_felled {G : ZG} (d : Nat) {h : ZH} {S : Nat} {c e : ZQ5} {N : ZN} (j : JX h S c e N) (x : Int32) : zC G (d + 7) mX11_felled [zr 0 0, zi x] h (fun r h' => ∃ v, r = some (zi v) ∧ ((¬ (1 ≤ x ∧ x ≤ 12) ∧ v = -1) ∨ (∃ k : Nat, k ≤ 12 ∧ 1 ≤ k ∧ x = nI k ∧ isF e S k v)) ∧ JX h' S c e N) := by
  refine zC_of (by decide +kernel) (Nat.le_of_ble_eq_true rfl) (L := [zr 0 0, zi x]) ⟨rfl, ⟨rfl, trivial⟩⟩ ?_
  refine wX11_felled_0 ⟨fun a => ⟨_, rfl, Or.inl ⟨a, rfl⟩, j⟩, fun a => ?_⟩
  obtain ⟨k, hk, rfl⟩ := nI_of2 (x := x) (M := 12) (n := 12) (by decide) (fun q => (fa_of_lt (fa_trans q (show (0 : Int32) ≤ 1 by decide))).2.1 a.1) a.2
  have k1 : 1 ≤ k := (nI_leI (a := 1) (by decide) (by omega)).mp a.1
  refine zC_mono (jX3_fewestTakings d j hk) ?_
  rintro r h1 ⟨v, rfl, iv, j1⟩
  exact ⟨v, rfl, v, rfl, Or.inr ⟨k, hk, k1, rfl, iv⟩, j1⟩
