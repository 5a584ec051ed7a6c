/-! ===== the class: settling, taking out, props, laying ===== -/
theorem va_cpy_at (f g : Nat → Int32) (n j : Nat) : va_cpy f g (0 : Int32).toNatClampNeg (0 : Int32).toNatClampNeg n j = if j < n then f j else g j := by
  unfold va_cpy
  have : (0 : Int32).toNatClampNeg = 0 := by decide
  rw [this]
  by_cases h : j < n <;> simp [h]
def zfz (ex : Nat → Nat → Nat → Bool) (h h' : ZH) : Prop := ∀ k i j, ex k i j = false → h'.1 k i j = h.1 k i j ∧ h'.2 k i j = h.2 k i j
theorem zfz.rf (ex : Nat → Nat → Nat → Bool) (h : ZH) : zfz ex h h := fun _ _ _ _ => ⟨rfl, rfl⟩
theorem zfz.tr {ex : Nat → Nat → Nat → Bool} {h h1 h2 : ZH} (a : zfz ex h h1) (b : zfz ex h1 h2) : zfz ex h h2 := fun k i j q => ⟨(b k i j q).1.trans (a k i j q).1, (b k i j q).2.trans (a k i j q).2⟩
theorem zfz.mono {ex ex' : Nat → Nat → Nat → Bool} {h h' : ZH} (a : zfz ex h h') (hs : ∀ k i j, ex' k i j = false → ex k i j = false) : zfz ex' h h' := fun k i j q => a k i j (hs k i j q)
theorem zfz.of {ex : Nat → Nat → Bool} {ex' : Nat → Nat → Nat → Bool} {h h' : ZH} (a : zfx ex h h') (hs : ∀ k i j, ex' k i j = false → ex k j = false) : zfz ex' h h' := fun k i j q => a k i j (hs k i j q)
theorem zfz.s1 (ex : Nat → Nat → Nat → Bool) (h : ZH) {k i j : Nat} (v : Int32) (hk : ex k i j = true) : zfz ex h (zs1 h k i j v) := by
  intro k' i' j' q
  refine ⟨?_, rfl⟩
  rw [zs1_at, if_neg]
  rintro ⟨rfl, rfl, rfl⟩
  rw [hk] at q
  cases q
theorem zfz.R (ex : Nat → Nat → Nat → Bool) (h : ZH) {k i : Nat} (f : Nat → Int32) (hk : ∀ j, ex k i j = true) : zfz ex h (zsR h k i f) := by
  intro k' i' j' q
  refine ⟨?_, rfl⟩
  rw [zsR_at, if_neg]
  rintro ⟨rfl, rfl⟩
  rw [hk] at q
  cases q
theorem zfz.row {ex : Nat → Nat → Nat → Bool} {h h' : ZH} (a : zfz ex h h') {k i : Nat} (hk : ∀ j, ex k i j = false) : h'.1 k i = h.1 k i := funext fun j => (a k i j (hk j)).1
theorem nI_sub {a b : Nat} (h : b ≤ a) : nI a - nI b = nI (a - b) := by
  have := pk_sub h
  exact this
/-- what settling the hall writes -/
def eT (k i j : Nat) : Bool := decide (k = 15) || decide (k = 2 ∧ i = 0 ∧ j = 6)
def eP (k i _j : Nat) : Bool := decide (k = 15) || decide (k = 2 ∧ i = 0)
def eM (k i _j : Nat) : Bool := decide (k = 15) || decide (k = 2 ∧ i = 0) || decide ((10 ≤ k ∧ k ≤ 14) ∧ i = 0)
theorem eP_T {k i j : Nat} (h : eP k i j = false) : eT k i j = false := by
  unfold eP at h
  unfold eT
  simp only [Bool.or_eq_false_iff, decide_eq_false_iff_not] at h ⊢
  exact ⟨h.1, fun q => h.2 ⟨q.1, q.2.1⟩⟩
theorem eM_P {k i j : Nat} (h : eM k i j = false) : eP k i j = false := by
  unfold eM at h
  unfold eP
  simp only [Bool.or_eq_false_iff] at h ⊢
  exact h.1
theorem eT_L {k i j : Nat} (h : eT k i j = false) : eL k j = false := by
  unfold eT at h
  unfold eL
  simp only [Bool.or_eq_false_iff] at h
  exact h.1
/-- the hall's changes of its set: no more than a new number -/
theorem RC0.set {h h' : ZH} {S S' : Nat} {c : ZQ5} {N : Nat} (r : RC0 h S c N) (hS : S' < 4096) (e : h'.1 2 0 6 = nI S') (f : zfz eT h h') : RC0 h' S' c N := by
  obtain ⟨r1, r2, r3, r4, r5, r6, r7, r8, r9, r10, r11⟩ := r
  refine ⟨hS, r2, r3, e, ?_, ?_, ?_, r8, ?_, ?_, ?_⟩
  · rw [(f 2 0 7 (by decide)).1]; exact r5
  · rw [(f 2 0 8 (by decide)).1]; exact r6
  · rw [cfgC_row (f.row fun _ => by unfold eT; simp) (f.row fun _ => by unfold eT; simp) (f.row fun _ => by unfold eT; simp)]; exact r7
  · rw [(f 2 0 9 (by decide)).1]; exact r9
  · rw [(f 1 0 5 (by decide)).1]; exact r10
  · rw [(f 1 0 5 (by decide)).1, f.row (k := 17) (i := 0) fun _ => by unfold eT; simp]; exact r11
theorem sX4_settle {G : ZG} (d : Nat) {h : ZH} {S : Nat} {c : ZQ5} {N : Nat} (hR : RC0 h S c N) : zC G (d + 4) mX4_settle [zr 2 0] h (fun r h' => r = some (zi (nI (zpc S - zpc (stl c S)))) ∧ RC0 h' (stl c S) c N ∧ zfz eT h h') := by
  refine zC_of (by decide +kernel) (Nat.le_of_ble_eq_true rfl) (L := [zr 2 0, zu, zu]) ⟨rfl, trivial⟩ ?_
  refine wX4_settle_0 (by decide) ?_
  rw [hR.S]
  have hS := hR.1
  refine zC_mono (sX4_leftOf d hR hS) ?_
  rintro r h1 ⟨rfl, f1⟩
  refine ⟨_, rfl, ?_⟩
  intro h2 e2
  have r1 := hR.L f1
  refine ⟨?_, ?_, ?_⟩
  · rw [r1.S, bcI_nI hS, bcI_nI (stl_lt c hS), nI_sub (zpc_mono (stl_le c hS))]
  · rw [e2]
    refine r1.set (stl_lt c hS) ?_ (zfz.s1 eT h1 _ (by decide))
    rw [zs1_at, if_pos ⟨rfl, rfl, rfl⟩]
  · rw [e2]
    exact (zfz.of f1 fun _ _ _ => eT_L).tr (zfz.s1 eT h1 _ (by decide))
theorem sX4_takeOut {G : ZG} (d : Nat) {h : ZH} {S p : Nat} {c : ZQ5} {N : Nat} (hR : RC0 h S c N) (hp : p < 12) : zC G (d + 5) mX4_takeOut [zr 2 0, zi (nI p)] h (fun r h' => r = some (zi (nI (zpc (zsd S (2 ^ p)) - zpc (stl c (zsd S (2 ^ p)))))) ∧ RC0 h' (stl c (zsd S (2 ^ p))) c N ∧ zfz eT h h') := by
  refine zC_of (by decide +kernel) (Nat.le_of_ble_eq_true rfl) (L := [zr 2 0, zi (nI p)]) ⟨rfl, ⟨rfl, trivial⟩⟩ ?_
  refine wX4_takeOut_0 (by decide) ?_
  intro h1 e1
  rw [hR.S, zi_sh hp, zi_not hR.1] at e1
  have f1 : zfz eT h h1 := by rw [e1]; exact zfz.s1 eT h _ (by decide)
  have r1 : RC0 h1 (zsd S (2 ^ p)) c N := hR.set (zsd_lt hR.1) (by rw [e1, zs1_at, if_pos ⟨rfl, rfl, rfl⟩]) f1
  refine zC_mono (sX4_settle d r1) ?_
  rintro r h2 ⟨rfl, q1, q2⟩
  exact ⟨_, rfl, rfl, q1, f1.tr q2⟩
/-- the same hall, its number of changes one up and other things in its rows -/
theorem RC0.new {h h' : ZH} {S S' F' P' : Nat} {c : ZQ5} {N : Nat} (r : RC0 h S c N) (hN : N + 1 < 2 ^ 30) (hS : S' < 4096) (hP : P' < 4096) (hF : F' < 4096) (e6 : h'.1 2 0 6 = nI S') (e7 : h'.1 2 0 7 = nI P') (e8 : h'.1 2 0 8 = nI F') (e9 : h'.1 2 0 9 = nI (N + 1)) (e1 : h'.1 1 0 5 = h.1 1 0 5) : RC0 h' S' (cfgC h' F' P') (N + 1) := by
  obtain ⟨r1, r2, r3, r4, r5, r6, r7, r8, r9, r10, r11⟩ := r
  refine ⟨hS, hP, hF, e6, e7, e8, rfl, hN, e9, ?_, ?_⟩
  · rw [e1]
    rcases r10 with q | ⟨m, hm, q⟩
    · exact Or.inl q
    · exact Or.inr ⟨m, by omega, q⟩
  · intro q
    rw [e1] at q
    exfalso
    rcases r10 with z | ⟨m, hm, z⟩
    · rw [z] at q
      exact nI_neg1 (by omega) q.symm
    · rw [z] at q
      have := (nI_eq (a := m) (b := N + 1) (by omega) (by omega)).mp q
      omega
theorem sX4_turnProp {G : ZG} (d : Nat) {h : ZH} {S p : Nat} {c : ZQ5} {N : Nat} (hR : RC0 h S c N) (hN : N + 1 < 2 ^ 30) (hp : p < 12) : zC G (d + 5) mX4_turnProp [zr 2 0, zi (nI p)] h (fun r h' => ∃ c' : ZQ5, c' = (cW c, cB c, cM c, cF c, cP c ^^^ 2 ^ p) ∧ r = some (zi (nI (zpc S - zpc (stl c' S)))) ∧ RC0 h' (stl c' S) c' (N + 1) ∧ zfz eP h h') := by
  refine zC_of (by decide +kernel) (Nat.le_of_ble_eq_true rfl) (L := [zr 2 0, zi (nI p)]) ⟨rfl, ⟨rfl, trivial⟩⟩ ?_
  refine wX4_turnProp_0 (by decide) ?_
  intro h1 e1 h2 e2
  have hP := hR.2.1
  have r9 := hR.2.2.2.2.2.2.2.2.1
  have r7 := hR.2.2.2.2.2.2.1
  rw [hR.P, zi_sh hp, fb_xorI] at e1
  have n9 : h1.1 2 0 9 = nI N := by rw [e1, zs1_at, if_neg (by simp)]; exact r9
  rw [n9, nI_1] at e2
  have f2 : zfz eP h h2 := by rw [e2, e1]; exact (zfz.s1 eP h _ (by decide)).tr (zfz.s1 eP _ _ (by decide))
  have o2 : ∀ j, j ≠ 7 → j ≠ 9 → h2.1 2 0 j = h.1 2 0 j := by
    intro j a b
    rw [e2, zs1_at, if_neg (by simp [b]), e1, zs1_at, if_neg (by simp [a])]
  have r2 := hR.new (h' := h2) (S' := S) (F' := cF c) (P' := cP c ^^^ 2 ^ p) hN hR.1 (zxor_lt hP (zp_lt hp)) hR.2.2.1 (by rw [o2 6 (by decide) (by decide)]; exact hR.S) (by rw [e2, zs1_at, if_neg (by simp), e1, zs1_at, if_pos ⟨rfl, rfl, rfl⟩]) (by rw [o2 8 (by decide) (by decide)]; exact hR.2.2.2.2.2.1) (by rw [e2, zs1_at, if_pos ⟨rfl, rfl, rfl⟩]) ((f2 1 0 5 (by decide)).1)
  have ec : cfgC h2 (cF c) (cP c ^^^ 2 ^ p) = (cW c, cB c, cM c, cF c, cP c ^^^ 2 ^ p) := by
    rw [cfgC_row (f2.row fun _ => by unfold eP; simp) (f2.row fun _ => by unfold eP; simp) (f2.row fun _ => by unfold eP; simp)]
    rw [← r7]
    rfl
  rw [ec] at r2
  refine zC_mono (sX4_settle d r2) ?_
  rintro r h3 ⟨rfl, q1, q2⟩
  exact ⟨_, rfl, _, rfl, rfl, q1, f2.tr (q2.mono fun _ _ _ => eP_T)⟩
theorem zk8 {k : Nat} (h : k < 8) : k = 0 ∨ k = 1 ∨ k = 2 ∨ k = 3 ∨ k = 4 ∨ k = 5 ∨ k = 6 ∨ k = 7 := by omega
theorem oX_weight {G : ZG} (d : Nat) {h : ZH} {k : Nat} (hk : k < 8) (f : Int32) : zCX G (d + 4) RX4 53 mX10_weight k [zi f] 1 h (fun r h' => r = some (zi (wgtI (nI k) f)) ∧ h' = h) := by
  have a2 : (2 : Int32) + f + 3 = 5 + f := by rw [Int32.add_comm 2 f, Int32.add_assoc, Int32.add_comm]; rfl
  have a3 : (2 : Int32) + f - 1 = 1 + f := by rw [Int32.sub_eq_add_neg, Int32.add_comm 2 f, Int32.add_assoc, Int32.add_comm]; rfl
  have a4 : (1 : Int32) + f + f = 1 + 2 * f := by rw [Int32.add_assoc, ← Int32.two_mul]
  have a6 : (2 : Int32) * (1 + f) = 2 + 2 * f := by rw [Int32.mul_add]; rfl
  rcases zk8 hk with rfl | rfl | rfl | rfl | rfl | rfl | rfl | rfl
  · exact ⟨_, oRX4_53_0, zC_mono (sX10_weight (d + 3) (by decide)) fun r h' q => ⟨q.1, q.2⟩⟩
  · exact ⟨_, oRX4_53_1, zC_mono (sX2_weight (d + 2) (by decide)) fun r h' q => ⟨by rw [q.1, a2]; rfl, q.2⟩⟩
  · exact ⟨_, oRX4_53_2, zC_mono (sX0_weight (d + 2) (by decide)) fun r h' q => ⟨by rw [q.1, a3]; rfl, q.2⟩⟩
  · exact ⟨_, oRX4_53_3, zC_mono (sX7_weight (d + 3) (by decide)) fun r h' q => ⟨q.1, q.2⟩⟩
  · exact ⟨_, oRX4_53_4, zC_mono (sX5_weight (d + 1) (by decide)) fun r h' q => ⟨by rw [q.1, a3, a4]; rfl, q.2⟩⟩
  · exact ⟨_, oRX4_53_5, zC_mono (sX2_weight (d + 2) (by decide)) fun r h' q => ⟨by rw [q.1, a2]; rfl, q.2⟩⟩
  · exact ⟨_, oRX4_53_6, zC_mono (sX1_weight (d + 1) (by decide)) fun r h' q => ⟨by rw [q.1, a3, a6]; rfl, q.2⟩⟩
  · exact ⟨_, oRX4_53_7, zC_mono (sX6_weight (d + 3) (by decide)) fun r h' q => ⟨q.1, q.2⟩⟩
theorem oX_bears {G : ZG} (d : Nat) {h : ZH} {k : Nat} (hk : k < 8) (f : Int32) : zCX G (d + 4) RX4 59 mX10_bears k [zi f] 1 h (fun r h' => r = some (zi (brsI (nI k) f)) ∧ h' = h) := by
  rcases zk8 hk with rfl | rfl | rfl | rfl | rfl | rfl | rfl | rfl
  · exact ⟨_, oRX4_59_0, zC_mono (sX10_bears (d + 3) (by decide)) fun r h' q => ⟨q.1, q.2⟩⟩
  · exact ⟨_, oRX4_59_1, zC_mono (sX2_bears (d + 2) (by decide)) fun r h' q => ⟨q.1, q.2⟩⟩
  · exact ⟨_, oRX4_59_2, zC_mono (sX0_bears (d + 2) (by decide)) fun r h' q => ⟨q.1, q.2⟩⟩
  · exact ⟨_, oRX4_59_3, zC_mono (sX7_bears (d + 3) (by decide)) fun r h' q => ⟨q.1, q.2⟩⟩
  · exact ⟨_, oRX4_59_4, zC_mono (sX5_bears (d + 1) (by decide)) fun r h' q => ⟨q.1, q.2⟩⟩
  · exact ⟨_, oRX4_59_5, zC_mono (sX9_bears (d + 1) (by decide)) fun r h' q => ⟨q.1, q.2⟩⟩
  · exact ⟨_, oRX4_59_6, zC_mono (sX1_bears (d + 1) (by decide)) fun r h' q => ⟨q.1, q.2⟩⟩
  · exact ⟨_, oRX4_59_7, zC_mono (sX6_bears (d + 3) (by decide)) fun r h' q => ⟨q.1, q.2⟩⟩
theorem oX_manner {G : ZG} (d : Nat) {h : ZH} {k : Nat} (hk : k < 8) : zCX G (d + 4) RX4 61 mX10_manner k [] 0 h (fun r h' => r = some (zi (mnrI (nI k))) ∧ h' = h) := by
  rcases zk8 hk with rfl | rfl | rfl | rfl | rfl | rfl | rfl | rfl
  · exact ⟨_, oRX4_61_0, zC_mono (sX10_manner (d + 3) (by decide)) fun r h' q => ⟨q.1, q.2⟩⟩
  · exact ⟨_, oRX4_61_1, zC_mono (sX10_manner (d + 3) (by decide)) fun r h' q => ⟨q.1, q.2⟩⟩
  · exact ⟨_, oRX4_61_2, zC_mono (sX0_manner (d + 3) (by decide)) fun r h' q => ⟨q.1, q.2⟩⟩
  · exact ⟨_, oRX4_61_3, zC_mono (sX7_manner (d + 3) (by decide)) fun r h' q => ⟨q.1, q.2⟩⟩
  · exact ⟨_, oRX4_61_4, zC_mono (sX0_manner (d + 3) (by decide)) fun r h' q => ⟨q.1, q.2⟩⟩
  · exact ⟨_, oRX4_61_5, zC_mono (sX10_manner (d + 3) (by decide)) fun r h' q => ⟨q.1, q.2⟩⟩
  · exact ⟨_, oRX4_61_6, zC_mono (sX1_manner (d + 3) (by decide)) fun r h' q => ⟨q.1, q.2⟩⟩
  · exact ⟨_, oRX4_61_7, zC_mono (sX7_manner (d + 3) (by decide)) fun r h' q => ⟨q.1, q.2⟩⟩
theorem oX_price {G : ZG} (d : Nat) {h : ZH} {k : Nat} (hk : k < 8) (f : Int32) : zCX G (d + 3) RX11 335 mX10_price k [zi f] 1 h (fun r h' => r = some (zi (costI (nI k) f)) ∧ h' = h) := by
  have a5 : (2 : Int32) * (2 + f) = 4 + 2 * f := by rw [Int32.mul_add]; rfl
  rcases zk8 hk with rfl | rfl | rfl | rfl | rfl | rfl | rfl | rfl
  · exact ⟨_, oRX11_335_0, zC_mono (sX10_price (d + 2) (by decide)) fun r h' q => ⟨q.1, q.2⟩⟩
  · exact ⟨_, oRX11_335_1, zC_mono (sX2_price (d + 1) (by decide)) fun r h' q => ⟨q.1, q.2⟩⟩
  · exact ⟨_, oRX11_335_2, zC_mono (sX0_price (d + 1) (by decide)) fun r h' q => ⟨q.1, q.2⟩⟩
  · exact ⟨_, oRX11_335_3, zC_mono (sX7_price (d + 1) (by decide)) fun r h' q => ⟨q.1, q.2⟩⟩
  · exact ⟨_, oRX11_335_4, zC_mono (sX5_price d (by decide)) fun r h' q => ⟨q.1, q.2⟩⟩
  · exact ⟨_, oRX11_335_5, zC_mono (sX9_price d (by decide)) fun r h' q => ⟨by rw [q.1, a5]; rfl, q.2⟩⟩
  · exact ⟨_, oRX11_335_6, zC_mono (sX1_price d (by decide)) fun r h' q => ⟨q.1, q.2⟩⟩
  · exact ⟨_, oRX11_335_7, zC_mono (sX7_price (d + 1) (by decide)) fun r h' q => ⟨q.1, q.2⟩⟩
