/-! ===== the class: what rests, what is loose ===== -/
def cfgC (h : ZH) (F P : Nat) : ZQ5 := (h.1 12 0, h.1 13 0, h.1 14 0, F, P)
theorem zbit0 {S p : Nat} (hS : S < 4096) (hp : p < 32) : (nI S >>> (nI p &&& 31)) &&& 1 = 0 ↔ ¬ S.testBit p = true := by
  rw [zi_bit hS hp, zb_eq0]
theorem zmod0 {p : Nat} (hp : p < 12) : nI p - nI p / 4 * 4 ≤ 0 ↔ p % 4 = 0 := by
  have : ∀ p, p < 12 → (nI p - nI p / 4 * 4 ≤ 0 ↔ p % 4 = 0) := by decide
  exact this p hp
theorem zmod3 {p : Nat} (hp : p < 12) : 3 ≤ nI p - nI p / 4 * 4 ↔ p % 4 = 3 := by
  have : ∀ p, p < 12 → (3 ≤ nI p - nI p / 4 * 4 ↔ p % 4 = 3) := by decide
  exact this p hp
theorem zand0 {X m : Nat} (hX : X < 4096) : X &&& m = 0 ↔ ∀ q, q < 12 → m.testBit q = true → X.testBit q = false := by
  constructor
  · intro h q _ hm
    have := congrArg (fun n => Nat.testBit n q) h
    simp only [Nat.testBit_and, hm, Bool.and_true, Nat.zero_testBit] at this
    exact this
  · intro h
    apply Nat.eq_of_testBit_eq
    intro q
    rw [Nat.testBit_and, Nat.zero_testBit]
    by_cases hq : q < 12
    · by_cases hm : m.testBit q = true
      · rw [h q hq hm]; rfl
      · rw [eq_false_of_ne_true hm, Bool.and_false]
    · rw [zhi hX (by omega), Bool.false_and]
theorem zsR_oth (h : ZH) {k i : Nat} (f : Nat → Int32) {k' : Nat} (i' : Nat) (hk : k' ≠ k) : (zsR h k i f).1 k' i' = h.1 k' i' := by
  funext j
  rw [zsR_at, if_neg (fun q => hk q.1)]
def zmb (p : Nat) : Nat := ([2, 5, 10, 4, 32, 80, 160, 64, 512, 1280, 2560, 1024] : List Nat).getD p 0
theorem zbes_n {p : Nat} (hp : p < 12) : zbes p = nI (zmb p) := by
  have : ∀ p, p < 12 → zbes p = nI (zmb p) := by decide
  exact this p hp
theorem zmb_bit {p q : Nat} (hp : p < 12) (hq : q < 12) : (zmb p).testBit q = true ↔ (p % 4 ≠ 0 ∧ q = p - 1) ∨ (p % 4 ≠ 3 ∧ q = p + 1) := by
  have : ∀ p, p < 12 → ∀ q, q < 12 → ((zmb p).testBit q = true ↔ (p % 4 ≠ 0 ∧ q = p - 1) ∨ (p % 4 ≠ 3 ∧ q = p + 1)) := by decide
  exact this p hp q hq
theorem zmb_lt {p : Nat} (hp : p < 12) : zmb p < 4096 := by
  have : ∀ p, p < 12 → zmb p < 4096 := by decide
  exact this p hp
theorem zbes_cl {c : ZQ5} {T p : Nat} (hT : T < 4096) (hp : p < 12) : (nI T &&& nI (cF c)) &&& zbes p = 0 ↔ ¬ zcl c T p = true := by
  rw [zbes_n hp, zi_and, zi_and, zi_0, zi_inj (zand_lt (zand_lt hT)) (by decide), zand0 (zand_lt hT)]
  unfold zcl
  constructor
  · intro h q
    simp only [Bool.or_eq_true, Bool.and_eq_true, decide_eq_true_eq] at q
    rcases q with ⟨q1, q2, q3⟩ | ⟨q1, q2, q3⟩
    · have := h (p - 1) (by omega) ((zmb_bit hp (by omega)).mpr (Or.inl ⟨q1, rfl⟩))
      rw [Nat.testBit_and, q2, q3] at this
      cases this
    · have hp1 : p + 1 < 12 := by omega
      have := h (p + 1) hp1 ((zmb_bit hp hp1).mpr (Or.inr ⟨q1, rfl⟩))
      rw [Nat.testBit_and, q2, q3] at this
      cases this
  · intro h q hq hm
    rcases (zmb_bit hp hq).mp hm with ⟨q1, rfl⟩ | ⟨q1, rfl⟩
    · rw [Nat.testBit_and]
      simp only [Bool.or_eq_true, Bool.and_eq_true, decide_eq_true_eq, not_or, not_and] at h
      have := h.1 q1
      by_cases z : T.testBit (p - 1) = true
      · rw [z, Bool.true_and]; exact eq_false_of_ne_true (this z)
      · rw [eq_false_of_ne_true z, Bool.false_and]
    · rw [Nat.testBit_and]
      simp only [Bool.or_eq_true, Bool.and_eq_true, decide_eq_true_eq, not_or, not_and] at h
      have := h.2 q1
      by_cases z : T.testBit (p + 1) = true
      · rw [z, Bool.true_and]; exact eq_false_of_ne_true (this z)
      · rw [eq_false_of_ne_true z, Bool.false_and]
set_option maxHeartbeats 4000000 in
theorem sX4_restsIn {G : ZG} (d : Nat) {h : ZH} {T F P p : Nat} (hT : T < 4096) (hFh : h.1 2 0 8 = nI F) (h4 : 4 ≤ p) (hp : p < 12) (t : T.testBit p = true) (np : P.testBit p = false) : zC G (d + 1) mX4_restsIn [zr 2 0, zi (nI T), zi (nI p)] h (fun r h' => r = some (zi (zb (zhd (cfgC h F P) T p = true))) ∧ h' = zsR h 15 0 (zl1 (cfgC h F P) T p (h.1 15 0))) := by
  refine zC_of (by decide +kernel) (Nat.le_of_ble_eq_true rfl) (L := [zr 2 0, zi (nI T), zi (nI p), zu, zu, zu, zu]) ⟨rfl, ⟨rfl, ⟨rfl, trivial⟩⟩⟩ ?_
  refine wX4_restsIn_0 (by decide) ?_
  have v : vp_in (nI p) 12 := vpn hp (by decide)
  have cp : (nI p).toNatClampNeg = p := nI_cl (by omega)
  have vb : vp_in (nI (p - 4)) 12 := vpn (by omega) (by decide)
  have cb : (nI (p - 4)).toNatClampNeg = p - 4 := nI_cl (by omega)
  have vr : vp_in (nI (p - 3)) 12 := vpn (by omega) (by decide)
  have cr : (nI (p - 3)).toNatClampNeg = p - 3 := nI_cl (by omega)
  have vl : vp_in (nI (p - 5)) 12 := vpn (by omega) (by decide)
  have cl : (nI (p - 5)).toNatClampNeg = p - 5 := nI_cl (by omega)
  have fcl : (nI T &&& nI F) &&& zbes p = 0 ↔ ¬ zcl (cfgC h F P) T p = true := zbes_cl (c := cfgC h F P) hT hp
  have hz : zl1 (cfgC h F P) T p (h.1 15 0) = (if zbl T p = true then upd (h.1 15 0) (p - 4) (h.1 15 0 (p - 4) + (h.1 12 0 p + h.1 15 0 p)) else if h.1 14 0 p = 1 then (if (zlf T p && zrt T p) = true then upd (upd (h.1 15 0) (p - 5) (h.1 15 0 (p - 5) + (h.1 12 0 p + h.1 15 0 p) / 2)) (p - 3) (h.1 15 0 (p - 3) + ((h.1 12 0 p + h.1 15 0 p) - (h.1 12 0 p + h.1 15 0 p) / 2)) else h.1 15 0) else if h.1 14 0 p = 2 then (if zlf T p = true then upd (h.1 15 0) (p - 5) (h.1 15 0 (p - 5) + (h.1 12 0 p + h.1 15 0 p)) else if zrt T p = true then upd (h.1 15 0) (p - 3) (h.1 15 0 (p - 3) + (h.1 12 0 p + h.1 15 0 p)) else h.1 15 0) else h.1 15 0) := by
    unfold zl1
    rw [if_pos]
    · rfl
    · rw [t, show (cP (cfgC h F P)).testBit p = false from np]
      simp [h4]
  have hh : (zhd (cfgC h F P) T p = true) ↔ (zbl T p = true ∨ (if h.1 14 0 p = 1 then (zlf T p = true ∧ zrt T p = true) else if h.1 14 0 p = 2 then (zlf T p = true ∨ zrt T p = true) else if h.1 14 0 p = 3 then zcl (cfgC h F P) T p = true else False)) := by
    unfold zhd
    rw [show (cP (cfgC h F P)).testBit p = false from np, show cM (cfgC h F P) p = h.1 14 0 p from rfl]
    have : ¬ p < 4 := by omega
    simp only [this, decide_false, Bool.false_or, Bool.or_eq_true]
    by_cases m1 : h.1 14 0 p = 1
    · simp [m1]
    · by_cases m2 : h.1 14 0 p = 2
      · simp [m2]
      · by_cases m3 : h.1 14 0 p = 3 <;> simp [m1, m2, m3]
  simp only [hh, hz]
  refine ⟨v, v, ?_⟩
  intro y ey
  rw [cp] at ey
  rw [← ey]
  have hb : zbl T p = T.testBit (p - 4) := rfl
  rw [zx_m4 h4 hp, zbit0 hT (by omega), zmod0 hp, zmod3 hp, hb, hFh, cp, fcl]
  by_cases b : T.testBit (p - 4) = true
  · simp only [b, not_true_eq_false, not_false_eq_true, false_imp_iff, true_imp_iff, true_and, and_true, forall_eq, vb, cb, if_true, true_or, zb_t]
    rw [zs1_R]
  · have n13 : ¬ (2 : Int32) = 1 := by decide
    have n31 : ¬ (3 : Int32) = 1 := by decide
    have n32 : ¬ (3 : Int32) = 2 := by decide
    simp only [b, not_true_eq_false, not_false_eq_true, false_imp_iff, true_imp_iff, true_and, and_true, if_false, false_or, Bool.false_eq_true]
    have e3 : nI (p - 4) + 1 = nI (p - 3) := by rw [nI_1]; congr 1; omega
    have fr : (nI T >>> (nI (p - 3) &&& 31)) &&& 1 = 0 ↔ ¬ T.testBit (p - 3) = true := zbit0 hT (by omega)
    rw [e3, fr, cr]
    have id0 : h = zsR h 15 0 (h.1 15 0) := (zsR_id h 15 0).symm
    have zt : zb True = 1 := by decide
    have zf : zb False = 0 := by decide
    by_cases m0 : p % 4 = 0
    · have m3 : ¬ p % 4 = 3 := by omega
      have fl : zlf T p = false := by unfold zlf; simp [m0]
      have frt : zrt T p = T.testBit (p - 3) := by unfold zrt; simp [m3]
      simp only [m0, m3, fl, frt, v, vr, not_true_eq_false, not_false_eq_true, false_imp_iff, true_imp_iff, true_and, and_true, Bool.false_and, Bool.false_eq_true, false_and, false_or, if_false]
      by_cases r : T.testBit (p - 3) = true
      · by_cases a1 : h.1 14 0 p = 1
        · simp [a1, zf, r]; first | exact id0 | exact ⟨fun _ => id0, fun _ => id0⟩
        · by_cases a2 : h.1 14 0 p = 2
          · simp [a2, zt, r, zs1_R]
          · by_cases a3 : h.1 14 0 p = 3
            · by_cases k : zcl (cfgC h F P) T p = true
              · simp [a3, k, zt]; first | exact id0 | exact ⟨fun _ => id0, fun _ => id0⟩
              · simp [a3, k, zf]; first | exact id0 | exact ⟨fun _ => id0, fun _ => id0⟩
            · simp [a1, a2, a3, zf]; first | exact id0 | exact ⟨fun _ => id0, fun _ => id0⟩
      · by_cases a1 : h.1 14 0 p = 1
        · simp [a1, zf, r]; first | exact id0 | exact ⟨fun _ => id0, fun _ => id0⟩
        · by_cases a2 : h.1 14 0 p = 2
          · simp [a2, zf, r]; first | exact id0 | exact ⟨fun _ => id0, fun _ => id0⟩
          · by_cases a3 : h.1 14 0 p = 3
            · by_cases k : zcl (cfgC h F P) T p = true
              · simp [a3, k, zt]; first | exact id0 | exact ⟨fun _ => id0, fun _ => id0⟩
              · simp [a3, k, zf]; first | exact id0 | exact ⟨fun _ => id0, fun _ => id0⟩
            · simp [a1, a2, a3, zf]; first | exact id0 | exact ⟨fun _ => id0, fun _ => id0⟩
    · have e5 : nI (p - 4) - 1 = nI (p - 5) := by
        rw [← zx_m4 h4 hp]; exact zx_m5 (by omega) hp
      have fl5 : (nI T >>> (nI (p - 5) &&& 31)) &&& 1 = 0 ↔ ¬ T.testBit (p - 5) = true := zbit0 hT (by omega)
      have fl : zlf T p = T.testBit (p - 5) := by unfold zlf; simp [m0]
      rw [e5, fl5, cl]
      simp only [m0, fl, v, vr, vl, not_true_eq_false, not_false_eq_true, false_imp_iff, true_imp_iff, true_and, and_true]
      have u53 : upd (h.1 15 0) (p - 5) (h.1 15 0 (p - 5) + y / 2) (p - 3) = h.1 15 0 (p - 3) := pk_un (by omega)
      by_cases m3 : p % 4 = 3
      · have frt : zrt T p = false := by unfold zrt; simp [m3]
        simp only [m3, frt, not_true_eq_false, not_false_eq_true, false_imp_iff, true_imp_iff, true_and, and_true, Bool.and_false, Bool.false_eq_true, and_false, or_false, if_false]
        by_cases l : T.testBit (p - 5) = true
        · by_cases a1 : h.1 14 0 p = 1
          · simp [a1, zf, l]; first | exact id0 | exact ⟨fun _ => id0, fun _ => id0⟩
          · by_cases a2 : h.1 14 0 p = 2
            · simp [a2, zt, l, zs1_R]
            · by_cases a3 : h.1 14 0 p = 3
              · by_cases k : zcl (cfgC h F P) T p = true
                · simp [a3, k, zt, l]; first | exact id0 | exact ⟨fun _ => id0, fun _ => id0⟩
                · simp [a3, k, zf, l]; first | exact id0 | exact ⟨fun _ => id0, fun _ => id0⟩
              · simp [a1, a2, a3, zf, l]; first | exact id0 | exact ⟨fun _ => id0, fun _ => id0⟩
        · by_cases a1 : h.1 14 0 p = 1
          · simp [a1, zf, l]; first | exact id0 | exact ⟨fun _ => id0, fun _ => id0⟩
          · by_cases a2 : h.1 14 0 p = 2
            · simp [a2, zf, l]; first | exact id0 | exact ⟨fun _ => id0, fun _ => id0⟩
            · by_cases a3 : h.1 14 0 p = 3
              · by_cases k : zcl (cfgC h F P) T p = true
                · simp [a3, k, zt, l]; first | exact id0 | exact ⟨fun _ => id0, fun _ => id0⟩
                · simp [a3, k, zf, l]; first | exact id0 | exact ⟨fun _ => id0, fun _ => id0⟩
              · simp [a1, a2, a3, zf, l]; first | exact id0 | exact ⟨fun _ => id0, fun _ => id0⟩
      · have frt : zrt T p = T.testBit (p - 3) := by unfold zrt; simp [m3]
        simp only [m3, frt, not_true_eq_false, not_false_eq_true, false_imp_iff, true_imp_iff, true_and, and_true]
        by_cases l : T.testBit (p - 5) = true
        · by_cases r : T.testBit (p - 3) = true
          · by_cases a1 : h.1 14 0 p = 1
            · simp [a1, zt, l, r, zs1_R, zsR_R, zsR_at, zsR_row, u53]
            · by_cases a2 : h.1 14 0 p = 2
              · simp [a2, zt, l, r, zs1_R]
              · by_cases a3 : h.1 14 0 p = 3
                · by_cases k : zcl (cfgC h F P) T p = true
                  · simp [a3, k, zt, l, r]; first | exact id0 | exact ⟨fun _ => id0, fun _ => id0⟩
                  · simp [a3, k, zf, l, r]; first | exact id0 | exact ⟨fun _ => id0, fun _ => id0⟩
                · simp [a1, a2, a3, zf, l, r]; first | exact id0 | exact ⟨fun _ => id0, fun _ => id0⟩
          · by_cases a1 : h.1 14 0 p = 1
            · simp [a1, zf, l, r]; first | exact id0 | exact ⟨fun _ => id0, fun _ => id0⟩
            · by_cases a2 : h.1 14 0 p = 2
              · simp [a2, zt, l, r, zs1_R]
              · by_cases a3 : h.1 14 0 p = 3
                · by_cases k : zcl (cfgC h F P) T p = true
                  · simp [a3, k, zt, l, r]; first | exact id0 | exact ⟨fun _ => id0, fun _ => id0⟩
                  · simp [a3, k, zf, l, r]; first | exact id0 | exact ⟨fun _ => id0, fun _ => id0⟩
                · simp [a1, a2, a3, zf, l, r]; first | exact id0 | exact ⟨fun _ => id0, fun _ => id0⟩
        · by_cases r : T.testBit (p - 3) = true
          · by_cases a1 : h.1 14 0 p = 1
            · simp [a1, zf, l, r]; first | exact id0 | exact ⟨fun _ => id0, fun _ => id0⟩
            · by_cases a2 : h.1 14 0 p = 2
              · simp [a2, zt, l, r, zs1_R]
              · by_cases a3 : h.1 14 0 p = 3
                · by_cases k : zcl (cfgC h F P) T p = true
                  · simp [a3, k, zt, l, r]; first | exact id0 | exact ⟨fun _ => id0, fun _ => id0⟩
                  · simp [a3, k, zf, l, r]; first | exact id0 | exact ⟨fun _ => id0, fun _ => id0⟩
                · simp [a1, a2, a3, zf, l, r]; first | exact id0 | exact ⟨fun _ => id0, fun _ => id0⟩
          · by_cases a1 : h.1 14 0 p = 1
            · simp [a1, zf, l, r]; first | exact id0 | exact ⟨fun _ => id0, fun _ => id0⟩
            · by_cases a2 : h.1 14 0 p = 2
              · simp [a2, zf, l, r]; first | exact id0 | exact ⟨fun _ => id0, fun _ => id0⟩
              · by_cases a3 : h.1 14 0 p = 3
                · by_cases k : zcl (cfgC h F P) T p = true
                  · simp [a3, k, zt, l, r]; first | exact id0 | exact ⟨fun _ => id0, fun _ => id0⟩
                  · simp [a3, k, zf, l, r]; first | exact id0 | exact ⟨fun _ => id0, fun _ => id0⟩
                · simp [a1, a2, a3, zf, l, r]; first | exact id0 | exact ⟨fun _ => id0, fun _ => id0⟩
