/-! ===== props wanted: more props only hold more and load less ===== -/
/-! the model's settling, whatever its props -/
theorem kX0_settled {G : ZG} (d : Nat) {h : ZH} {S T : Nat} {e : ZQ5} (j : RM0 h S e) (hT : T < 4096) : zC G (d + 5) mX12_settled [zr 5 0, zi (nI T)] h (fun r h' => r = some (zi (nI (stl e T))) ∧ h'.1 5 0 5 = nI (stp e T) ∧ RM0 h' S e ∧ zfx eS h h') := by
  refine zC_mono (sX12_settled d j hT) ?_
  rintro r h' ⟨rfl, q, f⟩
  exact ⟨rfl, q, j.S f, f⟩
theorem kX0_leftWithout {G : ZG} (d : Nat) {h : ZH} {S T U : Nat} {e : ZQ5} (j : RM0 h S e) (hT : T < 4096) : zC G (d + 6) mX12_leftWithout [zr 5 0, zi (nI T), zi (nI U)] h (fun r h' => r = some (zi (nI (stl e (zsd T U)))) ∧ h'.1 5 0 5 = nI (stp e (zsd T U)) ∧ RM0 h' S e ∧ zfx eS h h') := by
  refine zC_of (by decide +kernel) (Nat.le_of_ble_eq_true rfl) (L := [zr 5 0, zi (nI T), zi (nI U)]) ⟨rfl, ⟨rfl, ⟨rfl, trivial⟩⟩⟩ ?_
  refine wX12_leftWithout_0 ?_
  rw [zi_not hT]
  refine zC_mono (kX0_settled d j (zsd_lt hT)) ?_
  rintro r h' ⟨rfl, q⟩
  exact ⟨_, rfl, rfl, q⟩
theorem kX0_fallsOf {G : ZG} (d : Nat) {h : ZH} {S T U : Nat} {e : ZQ5} (j : RM0 h S e) (hT : T < 4096) : zC G (d + 7) mX12_fallsOf [zr 5 0, zi (nI T), zi (nI U)] h (fun r h' => r = some (zi (nI (fallN e T U))) ∧ RM0 h' S e ∧ zfx eS h h') := by
  refine zC_of (by decide +kernel) (Nat.le_of_ble_eq_true rfl) (L := [zr 5 0, zi (nI T), zi (nI U)]) ⟨rfl, ⟨rfl, ⟨rfl, trivial⟩⟩⟩ ?_
  refine wX12_fallsOf_0 ?_
  refine zC_mono (kX0_leftWithout d j hT) ?_
  rintro r h' ⟨rfl, _, q⟩
  refine ⟨_, rfl, ?_, q⟩
  rw [zi_not hT, bitsI_nI (zsd_lt hT), bitsI_nI (stl_lt e (zsd_lt hT)), nI_sub (zpc_mono (stl_le e (zsd_lt hT)))]
  rfl
theorem kX0_safeOf {G : ZG} (d : Nat) {h : ZH} {S T : Nat} {e : ZQ5} (j : RM0 h S e) (hT : T < 4096) : zC G (d + 8) mX12_safeOf [zr 5 0, zi (nI T)] h (fun r h' => r = some (zi (nI (safeN e T))) ∧ RM0 h' S e ∧ zfx eS h h') := by
  refine zC_of (by decide +kernel) (Nat.le_of_ble_eq_true rfl) (L := [zr 5 0, zi (nI T), zu, zu]) ⟨rfl, ⟨rfl, trivial⟩⟩ ?_
  refine wX12_safeOf_0 ?_
  have key : ∀ (f m : Nat), f + m = 12 → ∀ h1 : ZH, RM0 h1 S e → zfx eS h h1 → zT G (d + 8) mX12_safeOf 4 [zr 5 0, zi (nI T), zi (nI (zmk (fun p => T.testBit p && decide (stl e (zsd T (2 ^ p)) = zsd T (2 ^ p))) m)), zi (nI m)] [] h1 (fun r h' => r = some (zi (nI (safeN e T))) ∧ RM0 h' S e ∧ zfx eS h h') := by
    intro f
    induction f with
    | zero =>
      intro m hm h1 j1 f1
      have e : m = 12 := by omega
      subst e
      refine wX12_safeOf_4 ?_
      exact br_t (by decide) ⟨rfl, j1, f1⟩
    | succ f ih =>
      intro m hm h1 j1 f1
      have hm' : m < 12 := by omega
      refine wX12_safeOf_4 ?_
      refine br_f (nI_ge (a := m) (b := 12) (by omega) (by decide)) ?_
      rw [hasI_iff hT (show m < 32 by omega), zor_0, nI_1]
      refine ⟨fun t => ?_, fun t => ?_⟩
      · have := ih (m + 1) (by omega) h1 j1 f1
        rw [zmk_no _ (by simp [t])] at this
        exact this
      · rw [zi_sh hm']
        refine zC_mono (kX0_fallsOf (U := 2 ^ m) d j1 hT) ?_
        rintro r h2 ⟨rfl, j2, f2⟩
        refine ⟨_, rfl, ?_⟩
        rw [fallN_zi hT]
        have IH := ih (m + 1) (by omega) h2 j2 (f1.tr f2)
        refine ⟨fun t2 => ?_, fun t2 => ?_⟩
        · rw [zmk_no _ (by simp [t2])] at IH
          exact IH
        · rw [← zi_mk _ hm' (by simp [t, t2]), zi_sh hm'] at IH
          exact IH
  exact key 12 0 (by omega) h j (zfx.rf _ _)

/-- a configuration with other props -/
def cWith (e : ZQ5) (P : Nat) : ZQ5 := (cW e, cB e, cM e, cF e, P)
theorem mono_step {e : ZQ5} {S p P' M : Nat} (hP : zle (cP e) P') (hw : wOk e S) (hp : p < 12) (hM : M < 2 ^ 27) {ld le : Nat → Int32} (h : ∀ j, j < 12 → ∃ v u, u ≤ v ∧ v ≤ M ∧ ld j = nI v ∧ le j = nI u) : ∀ j, j < 12 → ∃ v u, u ≤ v ∧ v ≤ 2 * M + 23 ∧ zl1 e S p ld j = nI v ∧ zl1 (cWith e P') S p le j = nI u := by
  intro j hj
  obtain ⟨vj, uj, huj, hvj, evj, euj⟩ := h j hj
  unfold zl1
  by_cases q : (S.testBit p && decide (4 ≤ p) && !(cP e).testBit p) = true
  · rw [if_pos q]
    simp only [Bool.and_eq_true] at q
    obtain ⟨w, hw23, ew⟩ := hw p hp q.1.1
    obtain ⟨vp, up, hup, hvp, evp, eup⟩ := h p hp
    by_cases q' : (S.testBit p && decide (4 ≤ p) && !(cP (cWith e P')).testBit p) = true
    · rw [if_pos q']
      have both : ∀ (k : Nat) (l l' : Nat → Int32) (x x' : Int32), (∃ v u, u ≤ v ∧ v ≤ 2 * M + 23 ∧ x = nI v ∧ x' = nI u) → (∃ v u, u ≤ v ∧ v ≤ 2 * M + 23 ∧ l j = nI v ∧ l' j = nI u) → ∃ v u, u ≤ v ∧ v ≤ 2 * M + 23 ∧ upd l k x j = nI v ∧ upd l' k x' j = nI u := by
        intro k l l' x x' hx hl
        unfold upd
        by_cases z : j = k
        · simp only [z, if_true]; exact hx
        · simp only [z, if_false]; exact hl
      have same : ∃ v u, u ≤ v ∧ v ≤ 2 * M + 23 ∧ ld j = nI v ∧ le j = nI u := ⟨vj, uj, huj, by omega, evj, euj⟩
      have add1 : ∀ k, k < 12 → ∃ v u, u ≤ v ∧ v ≤ 2 * M + 23 ∧ ld k + (cW e p + ld p) = nI v ∧ le k + (cW (cWith e P') p + le p) = nI u := by
        intro k hk
        obtain ⟨vk, uk, huk, hvk, evk, euk⟩ := h k hk
        refine ⟨vk + (w + vp), uk + (w + up), by omega, by omega, by rw [evk, ew, evp, nI_add, nI_add], ?_⟩
        show le k + (cW e p + le p) = _
        rw [euk, ew, eup, nI_add, nI_add]
      have half : (cW e p + ld p) / 2 = nI ((w + vp) / 2) := by rw [ew, evp, nI_add, nI_half (by omega)]
      have rest : (cW e p + ld p) - (cW e p + ld p) / 2 = nI ((w + vp) - (w + vp) / 2) := by rw [half, ew, evp, nI_add, nI_sub (by omega)]
      have half' : (cW (cWith e P') p + le p) / 2 = nI ((w + up) / 2) := by
        show (cW e p + le p) / 2 = _
        rw [ew, eup, nI_add, nI_half (by omega)]
      have rest' : (cW (cWith e P') p + le p) - (cW (cWith e P') p + le p) / 2 = nI ((w + up) - (w + up) / 2) := by
        rw [half']
        show (cW e p + le p) - _ = _
        rw [ew, eup, nI_add, nI_sub (by omega)]
      have a5 : ∃ v u, u ≤ v ∧ v ≤ 2 * M + 23 ∧ ld (p - 5) + (cW e p + ld p) / 2 = nI v ∧ le (p - 5) + (cW (cWith e P') p + le p) / 2 = nI u := by
        obtain ⟨vk, uk, huk, hvk, evk, euk⟩ := h (p - 5) (by omega)
        exact ⟨vk + (w + vp) / 2, uk + (w + up) / 2, by omega, by omega, by rw [half, evk, nI_add], by rw [half', euk, nI_add]⟩
      have a3 : ∃ v u, u ≤ v ∧ v ≤ 2 * M + 23 ∧ ld (p - 3) + ((cW e p + ld p) - (cW e p + ld p) / 2) = nI v ∧ le (p - 3) + ((cW (cWith e P') p + le p) - (cW (cWith e P') p + le p) / 2) = nI u := by
        obtain ⟨vk, uk, huk, hvk, evk, euk⟩ := h (p - 3) (by omega)
        exact ⟨vk + ((w + vp) - (w + vp) / 2), uk + ((w + up) - (w + up) / 2), by omega, by omega, by rw [rest, evk, nI_add], by rw [rest', euk, nI_add]⟩
      have hm : cM (cWith e P') p = cM e p := rfl
      rw [hm]
      by_cases b : zbl S p = true
      · rw [if_pos b, if_pos b]
        exact both _ _ _ _ _ (add1 _ (by omega)) same
      · rw [if_neg b, if_neg b]
        by_cases m1 : cM e p = 1
        · rw [if_pos m1, if_pos m1]
          by_cases lr : (zlf S p && zrt S p) = true
          · rw [if_pos lr, if_pos lr]
            exact both _ _ _ _ _ a3 (both _ _ _ _ _ a5 same)
          · rw [if_neg lr, if_neg lr]
            exact same
        · rw [if_neg m1, if_neg m1]
          by_cases m2 : cM e p = 2
          · rw [if_pos m2, if_pos m2]
            by_cases l : zlf S p = true
            · rw [if_pos l, if_pos l]
              exact both _ _ _ _ _ (add1 _ (by omega)) same
            · rw [if_neg l, if_neg l]
              by_cases r : zrt S p = true
              · rw [if_pos r, if_pos r]
                exact both _ _ _ _ _ (add1 _ (by omega)) same
              · rw [if_neg r, if_neg r]
                exact same
          · rw [if_neg m2, if_neg m2]
            exact same
    · rw [if_neg q']
      -- there it is propped: what is on others grows only on the other side
      obtain ⟨v, hv, ev⟩ := ld_step (M := M) hw hp hM (fun k hk => by obtain ⟨a, b, h1, h2, h3, h4⟩ := h k hk; exact ⟨a, h2, h3⟩) j hj
      have ge : uj ≤ v := by
        have up : ∀ (k : Nat) (x : Nat), (∀ a, ld k = nI a → a ≤ M → a ≤ x) → x ≤ 2 * M + 23 → ∀ l : Nat → Int32, (∃ b, uj ≤ b ∧ b ≤ 2 * M + 23 ∧ l j = nI b) → (j = k → uj ≤ x) → ∃ b, uj ≤ b ∧ b ≤ 2 * M + 23 ∧ upd l k (nI x) j = nI b := by
          intro k x _ hx l hl hjk
          unfold upd
          by_cases z : j = k
          · simp only [z, if_true]
            exact ⟨x, hjk z, hx, rfl⟩
          · simp only [z, if_false]
            exact hl
        have main : ∃ b, uj ≤ b ∧ b ≤ 2 * M + 23 ∧ zl1 e S p ld j = nI b := by
          unfold zl1
          rw [if_pos (by simp only [Bool.and_eq_true]; exact q)]
          have same : ∃ b, uj ≤ b ∧ b ≤ 2 * M + 23 ∧ ld j = nI b := ⟨vj, huj, by omega, evj⟩
          have ex : ∀ (k : Nat) (y : Int32) (yn : Nat), y = nI yn → yn ≤ 23 + M → k < 12 → ∀ l : Nat → Int32, (∃ b, uj ≤ b ∧ b ≤ 2 * M + 23 ∧ l j = nI b) → ∃ b, uj ≤ b ∧ b ≤ 2 * M + 23 ∧ upd l k (ld k + y) j = nI b := by
            intro k y yn ey hy hk l hl
            obtain ⟨vk, uk, huk, hvk, evk, euk⟩ := h k hk
            rw [evk, ey, nI_add]
            refine up k (vk + yn) (fun a ha hM' => ?_) (by omega) l hl (fun z => ?_)
            · rw [evk, nI_eq (by omega) (by omega)] at ha
              omega
            · subst z
              rw [evj, nI_eq (by omega) (by omega)] at evk
              omega
          have all : cW e p + ld p = nI (w + vp) := by rw [ew, evp, nI_add]
          have half : (cW e p + ld p) / 2 = nI ((w + vp) / 2) := by rw [all, nI_half (by omega)]
          have rest : (cW e p + ld p) - (cW e p + ld p) / 2 = nI ((w + vp) - (w + vp) / 2) := by rw [half, all, nI_sub (by omega)]
          split
          · exact ex _ _ _ all (by omega) (by omega) _ same
          · split
            · split
              · exact ex _ _ _ rest (by omega) (by omega) _ (ex _ _ _ half (by omega) (by omega) _ same)
              · exact same
            · split
              · split
                · exact ex _ _ _ all (by omega) (by omega) _ same
                · split
                  · exact ex _ _ _ all (by omega) (by omega) _ same
                  · exact same
              · exact same
        obtain ⟨b, hb1, hb2, hb3⟩ := main
        rw [ev, nI_eq (by omega) (by omega)] at hb3
        omega
      unfold zl1 at ev
      rw [if_pos (by simp only [Bool.and_eq_true]; exact q)] at ev
      exact ⟨v, uj, ge, hv, ev, euj⟩
  · rw [if_neg q]
    have q' : ¬ (S.testBit p && decide (4 ≤ p) && !(cP (cWith e P')).testBit p) = true := by
      intro z
      apply q
      simp only [Bool.and_eq_true, Bool.not_eq_true'] at z ⊢
      refine ⟨z.1, ?_⟩
      apply eq_false_of_ne_true
      intro k
      have : (cP (cWith e P')).testBit p = true := hP p k
      rw [this] at z
      exact absurd z.2 (by decide)
    rw [if_neg q']
    exact ⟨vj, uj, huj, by omega, evj, euj⟩
theorem mono_all {e : ZQ5} {S P' : Nat} (hP : zle (cP e) P') (hw : wOk e S) : ∀ (n k : Nat), n + k = 12 → ∀ ld le : Nat → Int32, (∀ j, j < 12 → ∃ v u, u ≤ v ∧ v ≤ 23 * 2 ^ k - 23 ∧ ld j = nI v ∧ le j = nI u) → ∀ j, j < 12 → ∃ v u, u ≤ v ∧ v ≤ 94208 ∧ zld e S n ld j = nI v ∧ zld (cWith e P') S n le j = nI u := by
  intro n
  induction n with
  | zero =>
    intro k hk ld le h j hj
    have e : k = 12 := by omega
    subst e
    obtain ⟨v, u, huv, hv, ev, eu⟩ := h j hj
    exact ⟨v, u, huv, by omega, ev, eu⟩
  | succ n ih =>
    intro k hk ld le h
    rw [zld, zld]
    refine ih (k + 1) (by omega) _ _ ?_
    have pk : 2 ^ k ≤ 2 ^ 12 := Nat.pow_le_pow_right (by decide) (by omega)
    have pk1 : 1 ≤ 2 ^ k := Nat.one_le_two_pow
    have := mono_step (p := n) hP hw (by omega) (M := 23 * 2 ^ k - 23) (by omega) h
    intro j hj
    obtain ⟨v, u, huv, hv, ev, eu⟩ := this j hj
    refine ⟨v, u, huv, ?_, ev, eu⟩
    rw [Nat.pow_succ]
    omega
theorem lds_mono {e : ZQ5} {S P' : Nat} (hP : zle (cP e) P') (hw : wOk e S) {j : Nat} (hj : j < 12) : ∃ v u : Nat, u ≤ v ∧ v ≤ 94208 ∧ zlds e S j = nI v ∧ zlds (cWith e P') S j = nI u := mono_all hP hw 12 0 (by decide) _ _ (fun _ _ => ⟨0, 0, Nat.le_refl _, by decide, rfl, rfl⟩) j hj
/-- what holds goes on holding with more props -/
theorem zlz_mono {e : ZQ5} {S P' : Nat} (hP : zle (cP e) P') (hw : wOk e S) (h : zlz e S = 0) : zlz (cWith e P') S = 0 := by
  refine zs_ext (zlz_lt _ _) (by decide) fun p hp => ?_
  rw [Nat.zero_testBit]
  have z := congrArg (fun n => Nat.testBit n p) h
  simp only [Nat.zero_testBit] at z
  rw [zlz_mk, zms_bit _ hp] at z ⊢
  unfold zLZ at z ⊢
  by_cases b : S.testBit p = true
  · rw [b, Bool.true_and, Bool.or_eq_false_iff] at z ⊢
    obtain ⟨z1, z2⟩ := z
    refine ⟨?_, ?_⟩
    · have hd : zhd e S p = true := by simpa using z1
      have : zhd (cWith e P') S p = true := by
        unfold zhd at hd ⊢
        show (decide (p < 4) || P'.testBit p || zbl S p || (if cM e p = 1 then zlf S p && zrt S p else if cM e p = 2 then zlf S p || zrt S p else if cM e p = 3 then zcl e S p else false)) = true
        simp only [Bool.or_eq_true] at hd ⊢
        rcases hd with ((q | q) | q) | q
        · exact Or.inl (Or.inl (Or.inl q))
        · exact Or.inl (Or.inl (Or.inr (hP p q)))
        · exact Or.inl (Or.inr q)
        · exact Or.inr q
      rw [this]; rfl
    · obtain ⟨v, u, huv, hv, ev, eu⟩ := lds_mono hP hw hp
      rw [decide_eq_false_iff_not] at z2 ⊢
      rw [eu]
      rw [ev] at z2
      intro k
      apply z2
      have k' : cB e p < nI u := k
      rw [fa_lt, nI_toInt (by omega)] at k' ⊢
      omega
  · rw [eq_false_of_ne_true b, Bool.false_and]
