/-! ===== what is told of loads and weights, both sides ===== -/
theorem jX12_loads {G : ZG} (d : Nat) {h : ZH} {S T : Nat} {c e : ZQ5} {N : ZN} (j : JX h S c e N) (hT : T < 4096) : zC G (d + 4) mX12_loads [zr 5 0, zi (nI T)] h (fun r h' => r = none ∧ (∀ p, p < 12 → h'.1 33 0 p = zlds e T p) ∧ JX h' S c e N ∧ zfx eS h h') := by
  refine zC_mono (sX12_loads d hT j.m.2.1 j.m.2.2.2.1) ?_
  rintro r h' ⟨rfl, q⟩
  have f : zfx eS h h' := by
    rw [q]
    exact zfx.R eS h _ (fun _ => by unfold eS; simp)
  refine ⟨rfl, fun p hp => ?_, j.fS f, f⟩
  rw [q, zsR_row, zld_fl _ _ _ hp, j.m.2.2.2.2]
theorem jX4_weighAll {G : ZG} (d : Nat) {h : ZH} {S : Nat} {c e : ZQ5} {N : ZN} (j : JX h S c e N) : zC G (d + 4) mX4_weighAll [zr 2 0] h (fun r h' => r = none ∧ (∀ p, p < 12 → h'.1 15 0 p = zlds e S p) ∧ JX h' S c e N ∧ zfx eL h h') := by
  refine zC_mono (sX4_weighAll d j.c) ?_
  rintro r h' ⟨rfl, f, q⟩
  refine ⟨rfl, fun p hp => ?_, j.fL f, f⟩
  rw [q p hp, j.ldsE (zle_rf S)]
theorem JX.k30 {ex : Nat → Nat → Bool} {h h' : ZH} (a : zfx ex h h') (hk : ∀ j, ex 30 j = false) : (∀ x, kindI h' x = kindI h x) ∧ (∀ x, figI h' x = figI h x) := by
  have r := a.row 0 hk
  exact ⟨fun x => by unfold kindI; rw [r], fun x => by unfold figI; rw [r]⟩
theorem eL30 : ∀ j, eL 30 j = false := fun _ => eL_no (by decide)
theorem eS30 : ∀ j, eS 30 j = false := fun _ => eS_no (by decide) (by decide)
/-- stone -/
def stoneV (h : ZH) (e : ZQ5) (S : Nat) (x w : Int32) : Int32 := if 0 ≤ w ∧ w ≤ 5 then (if stN S x = 0 then (if w = 0 then kindI h x else if w = 1 then figI h x else if w = 2 then wgtI (kindI h x) (figI h x) else if w = 3 then brsI (kindI h x) (figI h x) else if w = 4 then zlds e S x.toNatClampNeg else noteI (wgtI (kindI h x) (figI h x)) (zlds e S x.toNatClampNeg)) else stN S x) else -1
theorem stoneV_n {h : ZH} {e : ZQ5} {S : Nat} {x w : Int32} (a : 0 ≤ w ∧ w ≤ 5) (s : stN S x = 0) : stoneV h e S x w = (if w = 0 then kindI h x else if w = 1 then figI h x else if w = 2 then wgtI (kindI h x) (figI h x) else if w = 3 then brsI (kindI h x) (figI h x) else if w = 4 then zlds e S x.toNatClampNeg else noteI (wgtI (kindI h x) (figI h x)) (zlds e S x.toNatClampNeg)) := by
  unfold stoneV
  rw [if_pos a, if_pos s]
theorem pX11_stone {G : ZG} (d : Nat) {h : ZH} {S : Nat} {c e : ZQ5} {N : ZN} (j : JX h S c e N) (x w : Int32) : zC G (d + 5) mX11_stone [zr 0 0, zi x, zi w] h (fun r h' => zJ S c e N (stoneV h e S x w) r h' ∧ h'.1 30 0 = h.1 30 0) := by
  refine zC_of (by decide +kernel) (Nat.le_of_ble_eq_true rfl) (L := [zr 0 0, zi x, zi w]) ⟨rfl, ⟨rfl, ⟨rfl, trivial⟩⟩⟩ ?_
  refine wX11_stone_0 ?_
  have bad : ∀ v, stoneV h e S x w = v → (fun (r : Option ZV) h' => zJ S c e N (stoneV h e S x w) r h' ∧ h'.1 30 0 = h.1 30 0) (some (zi v)) h := fun v hv => ⟨⟨by rw [hv], j⟩, rfl⟩
  refine ⟨fun a => bad _ ?_, fun a => ⟨fun b => bad _ ?_, fun b => ⟨fun b2 => ⟨fun t => ?_, fun t => bad _ ?_⟩, fun b2 => bad _ ?_⟩⟩⟩
  · unfold stoneV stN
    rw [if_neg a]
    split
    · rw [if_neg (by decide)]
    · rfl
  · unfold stoneV
    rw [if_neg (fun q => (fa_of_lt b).2.1 q.1)]
  · rw [j.st6] at t
    have s : stN S x = 0 := by unfold stN; rw [if_pos a, if_pos t]
    obtain ⟨p, hp, rfl, hb⟩ := stN_0 j.lt s
    have v : vp_in (nI p) 12 := vpn hp (by decide)
    have cl : (nI p).toNatClampNeg = p := nI_cl (by omega)
    rw [stoneV_n ⟨i02 b, b2⟩ s, cl]
    refine zC_mono (jX4_weighAll d j) ?_
    rintro r h1 ⟨rfl, ld, j1, f1⟩
    refine ⟨rfl, ?_⟩
    obtain ⟨k, f, hk, hf, q1, q2, q3, q4, q5, q6, q7, q8⟩ := j1.at hp hb
    have kk := JX.k30 f1 eL30
    rw [kk.1] at q1
    rw [kk.2] at q2
    have fr : h1.1 30 0 = h.1 30 0 := f1.row 0 eL30
    simp only [v, true_and, q1, q2, q3, q4, q5, q6, ld p hp]
    refine ⟨fun z => ⟨⟨by rw [if_pos z], j1⟩, fr⟩, fun z => ⟨fun z1 => ⟨⟨by rw [if_neg z, if_pos z1], j1⟩, fr⟩, fun z1 => ⟨fun z2 => ⟨⟨by rw [if_neg z, if_neg z1, if_pos z2], j1⟩, fr⟩, fun z2 => ⟨fun z3 => ⟨⟨by rw [if_neg z, if_neg z1, if_neg z2, if_pos z3], j1⟩, fr⟩, fun z3 => ⟨fun z4 => ⟨⟨by rw [if_neg z, if_neg z1, if_neg z2, if_neg z3, if_pos z4], j1⟩, fr⟩, fun z4 => ⟨⟨by rw [if_neg z, if_neg z1, if_neg z2, if_neg z3, if_neg z4], j1⟩, fr⟩⟩⟩⟩⟩⟩
  · rw [j.st6] at t
    unfold stoneV stN
    rw [if_pos ⟨i02 b, b2⟩, if_pos a, if_neg t, if_neg (by decide)]
  · unfold stoneV
    rw [if_neg (fun q => b2 q.2)]
theorem pX12_stone {G : ZG} (d : Nat) {h : ZH} {S : Nat} {c e : ZQ5} {N : ZN} (j : JX h S c e N) (x w : Int32) : zC G (d + 5) mX12_stone [zr 5 0, zi x, zi w] h (zJ S c e N (stoneV h e S x w)) := by
  refine zC_of (by decide +kernel) (Nat.le_of_ble_eq_true rfl) (L := [zr 5 0, zi x, zi w, zu]) ⟨rfl, ⟨rfl, ⟨rfl, trivial⟩⟩⟩ ?_
  refine wX12_stone_0 ?_
  rw [j.stW, j.m0]
  refine ⟨fun a => ⟨fun s => ?_, fun s => ⟨by unfold stoneV; rw [if_pos a, if_neg s], j⟩⟩, fun a => ⟨by unfold stoneV; rw [if_neg a], j⟩⟩
  obtain ⟨p, hp, rfl, hb⟩ := stN_0 j.lt s
  have v : vp_in (nI p) 12 := vpn hp (by decide)
  have cl : (nI p).toNatClampNeg = p := nI_cl (by omega)
  rw [stoneV_n a s, cl]
  refine zC_mono (jX12_loads d j j.lt) ?_
  rintro r h1 ⟨rfl, ld, j1, f1⟩
  refine ⟨rfl, ?_⟩
  have kk := JX.k30 f1 eS30
  simp only [v, true_and, kk.1, kk.2, ld p hp]
  exact ⟨fun z => ⟨by rw [if_pos z], j1⟩, fun z => ⟨fun z1 => ⟨by rw [if_neg z, if_pos z1], j1⟩, fun z1 => ⟨fun z2 => ⟨by rw [if_neg z, if_neg z1, if_pos z2], j1⟩, fun z2 => ⟨fun z3 => ⟨by rw [if_neg z, if_neg z1, if_neg z2, if_pos z3], j1⟩, fun z3 => ⟨fun z4 => ⟨by rw [if_neg z, if_neg z1, if_neg z2, if_neg z3, if_pos z4], j1⟩, fun z4 => ⟨by rw [if_neg z, if_neg z1, if_neg z2, if_neg z3, if_neg z4], j1⟩⟩⟩⟩⟩⟩
/-! how great loads are -/
def wOk (e : ZQ5) (S : Nat) : Prop := ∀ p, p < 12 → S.testBit p = true → ∃ w : Nat, w ≤ 23 ∧ cW e p = nI w
theorem wgt_23 {k f : Nat} (hk : k < 8) (hf : f < 10) : ∃ w : Nat, w ≤ 23 ∧ wgtI (nI k) (nI f) = nI w := by
  have : ∀ k, k < 8 → ∀ f, f < 10 → (wgtI (nI k) (nI f)).toNatClampNeg ≤ 23 ∧ wgtI (nI k) (nI f) = nI (wgtI (nI k) (nI f)).toNatClampNeg := by decide +kernel
  exact ⟨_, this k hk f hf⟩
theorem brs_40 {k f : Nat} (hk : k < 8) (hf : f < 10) : ∃ w : Nat, w ≤ 40 ∧ brsI (nI k) (nI f) = nI w := by
  have : ∀ k, k < 8 → ∀ f, f < 10 → (brsI (nI k) (nI f)).toNatClampNeg ≤ 40 ∧ brsI (nI k) (nI f) = nI (brsI (nI k) (nI f)).toNatClampNeg := by decide +kernel
  exact ⟨_, this k hk f hf⟩
theorem JX.wOk {h : ZH} {S : Nat} {c e : ZQ5} {N : ZN} (j : JX h S c e N) : wOk e S := fun p hp hb => by
  obtain ⟨k, f, hk, hf, q1, q2, q3, q4, q5, q6, q7, q8⟩ := j.at hp hb
  rw [q7]
  exact wgt_23 hk hf
theorem wOk.sub {e : ZQ5} {S T : Nat} (h : wOk e S) (hT : zle T S) : wOk e T := fun p hp hb => h p hp (hT p hb)
theorem nI_half {a : Nat} (h : a < 2 ^ 31) : nI a / 2 = nI (a / 2) := pk_div (d := 2) h (by decide) (by decide)
theorem ld_step {e : ZQ5} {S p M : Nat} (hw : wOk e S) (hp : p < 12) (hM : M < 2 ^ 27) {ld : Nat → Int32} (h : ∀ j, j < 12 → ∃ v, v ≤ M ∧ ld j = nI v) : ∀ j, j < 12 → ∃ v, v ≤ 2 * M + 23 ∧ zl1 e S p ld j = nI v := by
  intro j hj
  obtain ⟨vj, hvj, evj⟩ := h j hj
  unfold zl1
  by_cases q : (S.testBit p && decide (4 ≤ p) && !(cP e).testBit p) = true
  · rw [if_pos q]
    simp only [Bool.and_eq_true] at q
    obtain ⟨w, hw23, ew⟩ := hw p hp q.1.1
    obtain ⟨vp, hvp, evp⟩ := h p hp
    have add1 : ∀ k, k < 12 → ∃ v, v ≤ 2 * M + 23 ∧ ld k + (cW e p + ld p) = nI v := by
      intro k hk
      obtain ⟨vk, hvk, evk⟩ := h k hk
      exact ⟨vk + (w + vp), by omega, by rw [evk, ew, evp, nI_add, nI_add]⟩
    have hu : ∀ (k : Nat) (x : Int32), (∃ v, v ≤ 2 * M + 23 ∧ x = nI v) → ∃ v, v ≤ 2 * M + 23 ∧ upd ld k x j = nI v := by
      intro k x hx
      unfold upd
      by_cases z : j = k
      · simp only [z, if_true]; exact hx
      · simp only [z, if_false]; exact ⟨vj, by omega, evj⟩
    have same : ∃ v, v ≤ 2 * M + 23 ∧ ld j = nI v := ⟨vj, by omega, evj⟩
    split
    · exact hu _ _ (add1 _ (by omega))
    · split
      · split
        · have half : (cW e p + ld p) / 2 = nI ((w + vp) / 2) := by rw [ew, evp, nI_add, nI_half (by omega)]
          have rest : (cW e p + ld p) - (cW e p + ld p) / 2 = nI ((w + vp) - (w + vp) / 2) := by rw [half, ew, evp, nI_add, nI_sub (by omega)]
          have a1 : ∃ v, v ≤ 2 * M + 23 ∧ ld (p - 5) + (cW e p + ld p) / 2 = nI v := by
            obtain ⟨vk, hvk, evk⟩ := h (p - 5) (by omega)
            exact ⟨vk + (w + vp) / 2, by omega, by rw [half, evk, nI_add]⟩
          have a2 : ∃ v, v ≤ 2 * M + 23 ∧ ld (p - 3) + ((cW e p + ld p) - (cW e p + ld p) / 2) = nI v := by
            obtain ⟨vk, hvk, evk⟩ := h (p - 3) (by omega)
            exact ⟨vk + ((w + vp) - (w + vp) / 2), by omega, by rw [rest, evk, nI_add]⟩
          show ∃ v, v ≤ 2 * M + 23 ∧ upd (upd ld (p - 5) _) (p - 3) _ j = nI v
          by_cases z : j = p - 3
          · subst z
            rw [show upd (upd ld (p - 5) (ld (p - 5) + (cW e p + ld p) / 2)) (p - 3) (ld (p - 3) + ((cW e p + ld p) - (cW e p + ld p) / 2)) (p - 3) = ld (p - 3) + ((cW e p + ld p) - (cW e p + ld p) / 2) from by unfold upd; simp]
            exact a2
          · rw [pk_un z]
            exact hu _ _ a1
        · exact same
      · split
        · split
          · exact hu _ _ (add1 _ (by omega))
          · split
            · rename_i hz
              by_cases z12 : p - 3 < 12
              · exact hu _ _ (add1 _ z12)
              · omega
            · exact same
        · exact same
  · rw [if_neg q]
    exact ⟨vj, by omega, evj⟩
theorem ld_all {e : ZQ5} {S : Nat} (hw : wOk e S) : ∀ (n k : Nat), n + k = 12 → ∀ ld : Nat → Int32, (∀ j, j < 12 → ∃ v, v ≤ 23 * 2 ^ k - 23 ∧ ld j = nI v) → ∀ j, j < 12 → ∃ v, v ≤ 94208 ∧ zld e S n ld j = nI v := by
  intro n
  induction n with
  | zero =>
    intro k hk ld h j hj
    have e : k = 12 := by omega
    subst e
    obtain ⟨v, hv, ev⟩ := h j hj
    exact ⟨v, by omega, ev⟩
  | succ n ih =>
    intro k hk ld h
    rw [zld]
    refine ih (k + 1) (by omega) _ ?_
    have pk : 2 ^ k ≤ 2 ^ 12 := Nat.pow_le_pow_right (by decide) (by omega)
    have pk1 : 1 ≤ 2 ^ k := Nat.one_le_two_pow
    have := ld_step (p := n) hw (by omega) (M := 23 * 2 ^ k - 23) (by omega) h
    intro j hj
    obtain ⟨v, hv, ev⟩ := this j hj
    refine ⟨v, ?_, ev⟩
    rw [Nat.pow_succ]
    omega
theorem lds_ok {e : ZQ5} {S : Nat} (hw : wOk e S) {j : Nat} (hj : j < 12) : ∃ v : Nat, v ≤ 94208 ∧ zlds e S j = nI v := ld_all hw 12 0 (by decide) _ (fun _ _ => ⟨0, by decide, rfl⟩) j hj
/-- what is not there has no load -/
theorem ld_none (e : ZQ5) {S j : Nat} (hj : S.testBit j = false) : ∀ (n : Nat) (ld : Nat → Int32), ld j = 0 → zld e S n ld j = 0 := by
  intro n
  induction n with
  | zero => intro ld h; exact h
  | succ n ih =>
    intro ld h
    rw [zld]
    apply ih
    unfold zl1
    have hu : ∀ (l : Nat → Int32) (k : Nat) (x : Int32), S.testBit k = true → l j = 0 → upd l k x j = 0 := by
      intro l k x hk hl
      rw [pk_un]
      · exact hl
      · rintro rfl
        rw [hj] at hk
        cases hk
    split
    · split
      · rename_i b
        exact hu _ _ _ b h
      · split
        · split
          · rename_i b
            simp only [Bool.and_eq_true] at b
            unfold zlf zrt at b
            simp only [Bool.and_eq_true] at b
            exact hu _ _ _ b.2.2 (hu _ _ _ b.1.2 h)
          · exact h
        · split
          · split
            · rename_i b
              unfold zlf at b
              simp only [Bool.and_eq_true] at b
              exact hu _ _ _ b.2 h
            · split
              · rename_i b
                unfold zrt at b
                simp only [Bool.and_eq_true] at b
                exact hu _ _ _ b.2 h
              · exact h
          · exact h
    · exact h
theorem lds_none (e : ZQ5) {S j : Nat} (hj : S.testBit j = false) : zlds e S j = 0 := ld_none e hj 12 _ rfl
