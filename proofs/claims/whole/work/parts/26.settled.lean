/-! ===== frames; the model's settled ===== -/
def zfx (ex : Nat → Nat → Bool) (h h' : ZH) : Prop := ∀ k i j, ex k j = false → h'.1 k i j = h.1 k i j ∧ h'.2 k i j = h.2 k i j
theorem zfx.rf (ex : Nat → Nat → Bool) (h : ZH) : zfx ex h h := fun _ _ _ _ => ⟨rfl, rfl⟩
theorem zfx.tr {ex : Nat → Nat → Bool} {h h1 h2 : ZH} (a : zfx ex h h1) (b : zfx ex h1 h2) : zfx ex h h2 := fun k i j q => ⟨(b k i j q).1.trans (a k i j q).1, (b k i j q).2.trans (a k i j q).2⟩
theorem zfx.mono {ex ex' : Nat → Nat → Bool} {h h' : ZH} (a : zfx ex h h') (hs : ∀ k j, ex' k j = false → ex k j = false) : zfx ex' h h' := fun k i j q => a k i j (hs k j q)
theorem zfx.s1 (ex : Nat → Nat → Bool) (h : ZH) {k i j : Nat} (v : Int32) (hk : ex k j = true) : zfx ex h (zs1 h k i j v) := by
  intro k' i' j' q
  refine ⟨?_, rfl⟩
  rw [zs1_at, if_neg]
  rintro ⟨rfl, rfl, rfl⟩
  rw [hk] at q
  cases q
theorem zfx.s2 (ex : Nat → Nat → Bool) (h : ZH) {k i j : Nat} (v : Int64) (hk : ex k j = true) : zfx ex h (zs2 h k i j v) := by
  intro k' i' j' q
  refine ⟨rfl, ?_⟩
  rw [zs2_at, if_neg]
  rintro ⟨rfl, rfl, rfl⟩
  rw [hk] at q
  cases q
theorem zfx.R (ex : Nat → Nat → Bool) (h : ZH) {k i : Nat} (f : Nat → Int32) (hk : ∀ j, ex k j = true) : zfx ex h (zsR h k i f) := by
  intro k' i' j' q
  refine ⟨?_, rfl⟩
  rw [zsR_at, if_neg]
  rintro ⟨rfl, rfl⟩
  rw [hk] at q
  cases q
theorem zfx.R2 (ex : Nat → Nat → Bool) (h : ZH) {k i : Nat} (f : Nat → Int64) (hk : ∀ j, ex k j = true) : zfx ex h (zsR2 h k i f) := by
  intro k' i' j' q
  refine ⟨rfl, ?_⟩
  rw [zsR2_at, if_neg]
  rintro ⟨rfl, rfl⟩
  rw [hk] at q
  cases q
theorem zfx.row {ex : Nat → Nat → Bool} {h h' : ZH} (a : zfx ex h h') {k : Nat} (i : Nat) (hk : ∀ j, ex k j = false) : h'.1 k i = h.1 k i := funext fun j => (a k i j (hk j)).1
def eS (k j : Nat) : Bool := decide (k = 33) || decide (k = 5 ∧ j = 5)
theorem eS_no {k j : Nat} (h : k ≠ 33) (h2 : k ≠ 5) : eS k j = false := by unfold eS; simp [h, h2]
/-- the model's hall: the stones there, all else that settling looks at -/
def RM0 (h : ZH) (S : Nat) (c : ZQ5) : Prop := S < 4096 ∧ cP c < 4096 ∧ h.1 30 0 0 = nI S ∧ h.1 30 0 1 = nI (cP c) ∧ cfgH h (cP c) = c
theorem cfgH_row {h h' : ZH} (a : h'.1 30 0 = h.1 30 0) (P : Nat) : cfgH h' P = cfgH h P := by
  have k : ∀ x, kindI h' x = kindI h x := fun x => by unfold kindI; rw [a]
  have f : ∀ x, figI h' x = figI h x := fun x => by unfold figI; rw [a]
  unfold cfgH
  simp only [k, f]
theorem RM0.fr {h h' : ZH} {S : Nat} {c : ZQ5} (r : RM0 h S c) (a : h'.1 30 0 = h.1 30 0) : RM0 h' S c := by
  obtain ⟨r1, r2, r3, r4, r5⟩ := r
  exact ⟨r1, r2, by rw [a]; exact r3, by rw [a]; exact r4, by rw [cfgH_row a]; exact r5⟩
theorem RM0.fx {ex : Nat → Nat → Bool} {h h' : ZH} {S : Nat} {c : ZQ5} (r : RM0 h S c) (a : zfx ex h h') (hk : ∀ j, ex 30 j = false) : RM0 h' S c := r.fr (a.row 0 hk)
theorem RM0.S {h h' : ZH} {S : Nat} {c : ZQ5} (r : RM0 h S c) (a : zfx eS h h') : RM0 h' S c := r.fx a fun _ => eS_no (by decide) (by decide)
def zLZ (c : ZQ5) (T p : Nat) : Bool := T.testBit p && (!zhd c T p || decide (cB c p < zlds c T p))
theorem zlz_mk (c : ZQ5) (T : Nat) : zlz c T = zmk (zLZ c T) 12 := rfl
theorem zmk_0 (f : Nat → Bool) : zmk f 0 = 0 := rfl
theorem zi_mk (f : Nat → Bool) {m : Nat} (hm : m < 12) (hf : f m = true) : nI (zmk f m) ||| ((1 : Int32) <<< (nI m &&& 31)) = nI (zmk f (m + 1)) := by
  rw [zi_sh hm, zi_or]
  congr 1
  apply Nat.eq_of_testBit_eq
  intro p
  rw [Nat.testBit_or, zmk_bit, zmk_bit, zp_bit]
  by_cases q : m = p
  · subst q
    simp [hf]
  · have : (p < m + 1) = (p < m) := by apply propext; omega
    simp [q, this]
theorem zmk_no (f : Nat → Bool) {m : Nat} (hf : f m = false) : zmk f (m + 1) = zmk f m := by
  apply Nat.eq_of_testBit_eq
  intro p
  rw [zmk_bit, zmk_bit]
  by_cases q : p = m
  · subst q; simp [hf]
  · have : (p < m + 1) = (p < m) := by apply propext; omega
    rw [decide_eq_decide.mpr (iff_of_eq this)]
theorem zmk_lt12 (f : Nat → Bool) {m : Nat} (hm : m ≤ 12) : zmk f m < 4096 := Nat.lt_of_lt_of_le (zmk_lt f m) (Nat.pow_le_pow_right (n := 2) (by decide) hm)
set_option maxHeartbeats 2000000 in
theorem sX12_settled {G : ZG} (d : Nat) {h : ZH} {S T : Nat} {c : ZQ5} (hR : RM0 h S c) (hT : T < 4096) : zC G (d + 5) mX12_settled [zr 5 0, zi (nI T)] h (fun r h' => r = some (zi (nI (stl c T))) ∧ h'.1 5 0 5 = nI (stp c T) ∧ zfx eS h h') := by
  refine zC_of (by decide +kernel) (Nat.le_of_ble_eq_true rfl) (L := [zr 5 0, zi (nI T), zu, zu, zu]) ⟨rfl, ⟨rfl, trivial⟩⟩ ?_
  refine wX12_settled_0 ?_
  intro h0 e0
  have key : ∀ (n T' : Nat), T' < 4096 → zpc T' < n → ∀ (h1 : ZH) (k : Nat), zfx eS h h1 → h1.1 5 0 5 = nI k → ∀ x3 : Int32, x3 ≠ 0 → zT G (d + 5) mX12_settled 9 [zr 5 0, zi (nI T), zi (nI T'), zi x3, zu] [] h1 (fun r h' => r = some (zi (nI (stlN c n T'))) ∧ h'.1 5 0 5 = nI (k + stpN c n T') ∧ zfx eS h h') := by
    intro n
    induction n with
    | zero => intro T' _ hz; exact absurd hz (Nat.not_lt_zero _)
    | succ n ih =>
      intro T' hT' hz h1 k hf hk x3 hx
      refine wX12_settled_9 ?_
      refine br_f hx ?_
      have r1 := hR.S hf
      obtain ⟨_, rP, _, rp, rc⟩ := r1
      refine zC_mono (sX12_loads d hT' rP rp) ?_
      rintro r h2 ⟨rfl, e2⟩
      refine ⟨rfl, ?_⟩
      have f2 : zfx eS h h2 := by
        rw [e2]
        exact hf.tr (zfx.R eS h1 _ (fun j => by unfold eS; simp))
      have k2 : h2.1 5 0 5 = nI k := by rw [e2, zsR_at, if_neg (by simp)]; exact hk
      have ld2 : ∀ j, j < 12 → h2.1 33 0 j = zlds c T' j := by
        intro j hj
        rw [e2, zsR_at, if_pos ⟨rfl, rfl⟩, zld_fl _ _ _ hj, rc]
      have r2 := hR.S f2
      have rc2 : cfgH h2 (cP c) = c := r2.2.2.2.2
      have held : ∀ m, m < 12 → (heldI h2 (nI T') (nI m) ↔ zhd c T' m = true) := by
        intro m hm
        rw [heldI_iff hT' rP r2.2.2.2.1 hm, rc2]
      have brs : ∀ m, brsI (kindI h2 (nI m)) (figI h2 (nI m)) = cB c m := by
        intro m
        rw [← rc2]
        rfl
      have inner : ∀ (f m : Nat), f + m = 12 → zT G (d + 5) mX12_settled 23 [zr 5 0, zi (nI T), zi (nI T'), zi (nI (zmk (zLZ c T') m)), zi (nI m)] [] h2 (fun r h' => r = some (zi (nI (stlN c (n + 1) T'))) ∧ h'.1 5 0 5 = nI (k + stpN c (n + 1) T') ∧ zfx eS h h') := by
        intro f
        induction f with
        | zero =>
          intro m hm
          have e : m = 12 := by omega
          subst e
          refine wX12_settled_23 ?_
          refine br_t (by decide) ?_
          rw [← zlz_mk, zi_not hT', k2]
          have z0 : nI (zlz c T') = 0 ↔ zlz c T' = 0 := by rw [zi_0]; exact zi_inj (zlz_lt c T') (by decide)
          refine ⟨fun e => ?_, fun e => ?_⟩
          · intro h3 e3
            have e' := z0.mp e
            rw [e, e', zsd_0 hT']
            refine wX12_settled_9 (br_t rfl ⟨?_, ?_, ?_⟩)
            · rw [stlN, if_pos e']
            · rw [e3, zs1_at, if_pos ⟨rfl, rfl, rfl⟩, stpN, if_pos e']
              simp
            · rw [e3]
              exact f2.tr (zfx.s1 eS h2 _ (by decide))
          · intro h3 e3
            have e' : zlz c T' ≠ 0 := fun q => e (z0.mpr q)
            have := ih (zsd T' (zlz c T')) (zsd_lt hT') (by have := zst_pc c hT' e'; omega) h3 (k + 1) (by rw [e3]; exact f2.tr (zfx.s1 eS h2 _ (by decide))) (by rw [e3, zs1_at, if_pos ⟨rfl, rfl, rfl⟩]; exact nI_1 k) _ e
            refine zT_mono this ?_
            rintro r h' ⟨q1, q2, q3⟩
            refine ⟨?_, ?_, q3⟩
            · rw [stlN, if_neg e']; exact q1
            · rw [stpN, if_neg e', q2]
              congr 1; omega
        | succ f ih2 =>
          intro m hm
          have hm' : m < 12 := by omega
          have IH := ih2 (m + 1) (by omega)
          have v : vp_in (nI m) 12 := vpn hm' (by decide)
          refine wX12_settled_23 ?_
          refine br_f (nI_ge (a := m) (b := 12) (by omega) (by decide)) ?_
          simp only [hasI_iff hT' (show m < 32 by omega), held m hm', brs, nI_cl (show m ≤ 4096 by omega), ld2 m hm', v, true_and, nI_1]
          by_cases t : T'.testBit m = true
          · by_cases hd : zhd c T' m = true
            · by_cases lb : zlds c T' m ≤ cB c m
              · have z : zLZ c T' m = false := by unfold zLZ; simp [hd, Int32.not_lt.mpr lb]
                rw [zmk_no _ z] at IH
                simp only [t, hd, lb, not_true_eq_false, Bool.false_eq_true, not_false_eq_true, false_imp_iff, true_imp_iff, true_and, and_true]
                exact IH
              · have z : zLZ c T' m = true := by unfold zLZ; simp [t, hd, Int32.not_le.mp lb]
                simp only [t, hd, lb, not_true_eq_false, Bool.false_eq_true, not_false_eq_true, false_imp_iff, true_imp_iff, true_and, and_true]
                rw [zi_mk _ hm' z]
                exact IH
            · have z : zLZ c T' m = true := by unfold zLZ; simp [t, hd]
              simp only [t, hd, not_true_eq_false, Bool.false_eq_true, not_false_eq_true, false_imp_iff, true_imp_iff, true_and, and_true]
              rw [zi_mk _ hm' z]
              exact IH
          · have z : zLZ c T' m = false := by unfold zLZ; simp [t]
            rw [zmk_no _ z] at IH
            simp only [t, not_true_eq_false, Bool.false_eq_true, not_false_eq_true, false_imp_iff, true_imp_iff, true_and, and_true]
            exact IH
      exact inner 12 0 (by omega)
  have hz := zpc_le T
  have := key 13 T hT (by omega) h0 0 (by rw [e0]; exact zfx.s1 eS h _ (by decide)) (by rw [e0, zs1_at, if_pos ⟨rfl, rfl, rfl⟩]; rfl) (-1) (by decide)
  refine zT_mono this ?_
  rintro r h' ⟨q1, q2, q3⟩
  exact ⟨q1, by rw [q2, Nat.zero_add]; rfl, q3⟩
