/-! ===== the small loops ===== -/
theorem zh_ext {h h' : ZH} (h1 : ∀ k i j, h.1 k i j = h'.1 k i j) (h2 : ∀ k i j, h.2 k i j = h'.2 k i j) : h = h' := by
  obtain ⟨a, b⟩ := h
  obtain ⟨a', b'⟩ := h'
  have e1 : a = a' := by funext k i j; exact h1 k i j
  have e2 : b = b' := by funext k i j; exact h2 k i j
  rw [e1, e2]
theorem zkd_n {k i t n : Nat} (h : zkd k i = .inr (t, n)) : n ≤ 4096 := by
  unfold zkd at h
  split at h <;> first | (cases h; decide) | cases h
theorem zs1_at (h : ZH) (k i j : Nat) (v : Int32) (k' i' j' : Nat) : (zs1 h k i j v).1 k' i' j' = if k' = k ∧ i' = i ∧ j' = j then v else h.1 k' i' j' := rfl
theorem zs2_at (h : ZH) (k i j : Nat) (v : Int64) (k' i' j' : Nat) : (zs2 h k i j v).2 k' i' j' = if k' = k ∧ i' = i ∧ j' = j then v else h.2 k' i' j' := rfl
theorem zsR_at (h : ZH) (k i : Nat) (f : Nat → Int32) (k' i' j' : Nat) : (zsR h k i f).1 k' i' j' = if k' = k ∧ i' = i then f j' else h.1 k' i' j' := rfl
def zsR2 (h : ZH) (k i : Nat) (f : Nat → Int64) : ZH := (h.1, fun k' i' j' => if k' = k ∧ i' = i then f j' else h.2 k' i' j')
theorem zsR2_at (h : ZH) (k i : Nat) (f : Nat → Int64) (k' i' j' : Nat) : (zsR2 h k i f).2 k' i' j' = if k' = k ∧ i' = i then f j' else h.2 k' i' j' := rfl
/-- the first m of a row are v -/
def zfl {α : Type} (f : Nat → α) (v : α) (m : Nat) : Nat → α := fun j => if j < m then v else f j
theorem zsR_id (h : ZH) (k i : Nat) : zsR h k i (h.1 k i) = h := by
  apply zh_ext
  · intro k' i' j'
    rw [zsR_at]
    by_cases q : k' = k ∧ i' = i
    · rw [if_pos q, q.1, q.2]
    · rw [if_neg q]
  · intro k' i' j'; rfl
theorem zsR_s1 (h : ZH) (k i : Nat) (f : Nat → Int32) (j : Nat) (v : Int32) : zs1 (zsR h k i f) k i j v = zsR h k i (upd f j v) := by
  apply zh_ext
  · intro k' i' j'
    rw [zs1_at, zsR_at, zsR_at]
    by_cases q : k' = k ∧ i' = i
    · rw [if_pos q, if_pos q]
      by_cases q2 : j' = j
      · rw [if_pos ⟨q.1, q.2, q2⟩]; simp [upd, q2]
      · rw [if_neg (fun z => q2 z.2.2)]; simp [upd, q2]
    · rw [if_neg q, if_neg q, if_neg (fun z => q ⟨z.1, z.2.1⟩)]
  · intro k' i' j'; rfl
theorem zsR_R (h : ZH) (k i : Nat) (f g : Nat → Int32) : zsR (zsR h k i f) k i g = zsR h k i g := by
  apply zh_ext
  · intro k' i' j'
    rw [zsR_at, zsR_at, zsR_at]
    by_cases q : k' = k ∧ i' = i
    · rw [if_pos q, if_pos q]
    · rw [if_neg q, if_neg q, if_neg q]
  · intro k' i' j'; rfl
theorem zs1_R (h : ZH) (k i j : Nat) (v : Int32) : zs1 h k i j v = zsR h k i (upd (h.1 k i) j v) := by
  rw [← zsR_s1, zsR_id]
theorem zsR2_id (h : ZH) (k i : Nat) : zsR2 h k i (h.2 k i) = h := by
  apply zh_ext
  · intro k' i' j'; rfl
  · intro k' i' j'
    rw [zsR2_at]
    by_cases q : k' = k ∧ i' = i
    · rw [if_pos q, q.1, q.2]
    · rw [if_neg q]
theorem zsR2_s2 (h : ZH) (k i : Nat) (f : Nat → Int64) (j : Nat) (v : Int64) : zs2 (zsR2 h k i f) k i j v = zsR2 h k i (vp_updL f j v) := by
  apply zh_ext
  · intro k' i' j'; rfl
  · intro k' i' j'
    rw [zs2_at, zsR2_at, zsR2_at]
    by_cases q : k' = k ∧ i' = i
    · rw [if_pos q, if_pos q]
      by_cases q2 : j' = j
      · rw [if_pos ⟨q.1, q.2, q2⟩]; simp [vp_updL, q2]
      · rw [if_neg (fun z => q2 z.2.2)]; simp [vp_updL, q2]
    · rw [if_neg q, if_neg q, if_neg (fun z => q ⟨z.1, z.2.1⟩)]
theorem zfl_upd (f : Nat → Int32) (v : Int32) (m : Nat) : upd (zfl f v m) m v = zfl f v (m + 1) := by
  funext j
  unfold upd zfl
  by_cases q : j = m
  · rw [if_pos q, if_pos (by omega)]
  · rw [if_neg q]
    by_cases q2 : j < m
    · rw [if_pos q2, if_pos (by omega)]
    · rw [if_neg q2, if_neg (by omega)]
theorem zfl_updL (f : Nat → Int64) (v : Int64) (m : Nat) : vp_updL (zfl f v m) m v = zfl f v (m + 1) := by
  funext j
  unfold vp_updL zfl
  by_cases q : j = m
  · rw [if_pos q, if_pos (by omega)]
  · rw [if_neg q]
    by_cases q2 : j < m
    · rw [if_pos q2, if_pos (by omega)]
    · rw [if_neg q2, if_neg (by omega)]
theorem zfl_0 {α : Type} (f : Nat → α) (v : α) : zfl f v 0 = f := by
  funext j
  unfold zfl
  rw [if_neg (by omega)]
theorem nI_cl {n : Nat} (h : n ≤ 4096) : (nI n).toNatClampNeg = n := nI_clamp (by omega)
/-- Arrays.fill of ints -/
theorem sJ7_fillI {G : ZG} (d : Nat) {h : ZH} {k i n : Nat} {v : Int32} (hk : zkd k i = .inr (0, n)) (hi : i < zcnt k) : zC G (d + 1) mJ7_fill_53178 [zr k i, zi v] h (fun r h' => r = none ∧ h' = zsR h k i (zfl (h.1 k i) v n)) := by
  have hn := zkd_n hk
  refine zC_of (by decide +kernel) (Nat.le_of_ble_eq_true rfl) (L := [zr k i, zi v, zu, zu]) ⟨rfl, ⟨rfl, trivial⟩⟩ ?_
  refine wJ7_fill_53178_0 hk hi ?_
  have key : ∀ (f m : Nat), f + m = n → zT G (d + 1) mJ7_fill_53178 5 [zr k i, zi v, zi (nI m), zi (nI n)] [] (zsR h k i (zfl (h.1 k i) v m)) (fun r h' => r = none ∧ h' = zsR h k i (zfl (h.1 k i) v n)) := by
    intro f
    induction f with
    | zero =>
      intro m hm
      have e : m = n := by omega
      subst e
      refine wJ7_fill_53178_5 hk hi ?_
      exact br_t (Int32.le_refl _) ⟨rfl, rfl⟩
    | succ f ih =>
      intro m hm
      refine wJ7_fill_53178_5 hk hi ?_
      refine br_f (nI_ge (by omega) (by omega)) ⟨vp_in_nI (by omega) (by omega), ?_⟩
      intro h1 e1
      rw [e1, nI_cl (by omega), zsR_s1, zfl_upd, nI_1]
      exact ih (m + 1) (by omega)
  have := key n 0 (by omega)
  rw [zfl_0, zsR_id] at this
  exact this
theorem sJ7_fillL {G : ZG} (d : Nat) {h : ZH} {k i n : Nat} {v : Int64} (hk : zkd k i = .inr (1, n)) (hi : i < zcnt k) : zC G (d + 1) mJ7_fill_d0a16 [zr k i, zl v] h (fun r h' => r = none ∧ h' = zsR2 h k i (zfl (h.2 k i) v n)) := by
  have hn := zkd_n hk
  refine zC_of (by decide +kernel) (Nat.le_of_ble_eq_true rfl) (L := [zr k i, zl v, zu, zu, zu]) ⟨rfl, ⟨rfl, trivial⟩⟩ ?_
  refine wJ7_fill_d0a16_0 hk hi ?_
  have key : ∀ (f m : Nat), f + m = n → zT G (d + 1) mJ7_fill_d0a16 6 [zr k i, zl v, zu, zi (nI m), zi (nI n)] [] (zsR2 h k i (zfl (h.2 k i) v m)) (fun r h' => r = none ∧ h' = zsR2 h k i (zfl (h.2 k i) v n)) := by
    intro f
    induction f with
    | zero =>
      intro m hm
      have e : m = n := by omega
      subst e
      refine wJ7_fill_d0a16_6 hk hi ?_
      exact br_t (Int32.le_refl _) ⟨rfl, rfl⟩
    | succ f ih =>
      intro m hm
      refine wJ7_fill_d0a16_6 hk hi ?_
      refine br_f (nI_ge (by omega) (by omega)) ⟨vp_in_nI (by omega) (by omega), ?_⟩
      intro h1 e1
      rw [e1, nI_cl (by omega), zsR2_s2, zfl_updL, nI_1]
      exact ih (m + 1) (by omega)
  have := key n 0 (by omega)
  rw [zfl_0, zsR2_id] at this
  exact this
/-- bits -/
theorem sX12_bits {G : ZG} (d : Nat) {h : ZH} {x0 : Int32} : zC G (d + 1) mX12_bits [zi x0] h (fun r h' => r = some (zi (bitsI x0)) ∧ h' = h) := by
  refine zC_of (by decide +kernel) (Nat.le_of_ble_eq_true rfl) (L := [zi x0, zu, zu]) ⟨rfl, trivial⟩ ?_
  refine wX12_bits_0 ?_
  have key : ∀ (f m : Nat), f + m = 12 → zT G (d + 1) mX12_bits 4 [zi x0, zi (bitsN x0 m), zi (nI m)] [] h (fun r h' => r = some (zi (bitsI x0)) ∧ h' = h) := by
    intro f
    induction f with
    | zero =>
      intro m hm
      have e : m = 12 := by omega
      subst e
      refine wX12_bits_4 ?_
      exact br_t (by decide) ⟨rfl, rfl⟩
    | succ f ih =>
      intro m hm
      refine wX12_bits_4 ?_
      refine br_f (nI_ge (a := m) (b := 12) (by omega) (by decide)) ?_
      rw [nI_1]
      exact ih (m + 1) (by omega)
  exact key 12 0 (by omega)
/-- copies, of one row to another -/
theorem sX12_copies {G : ZG} (d : Nat) {h : ZH} {a0 a1 : Nat} (hk0 : zkd a0 0 = .inr (0, 26)) (hk1 : zkd a1 0 = .inr (0, 26)) (hi0 : 0 < zcnt a0) (hi1 : 0 < zcnt a1) (hne : a0 ≠ a1) : zC G (d + 1) mX12_copies [zr a0 0, zr a1 0] h (fun r h' => r = none ∧ h' = zsR h a1 0 (fun j => if j < 26 then h.1 a0 0 j else h.1 a1 0 j)) := by
  refine zC_of (by decide +kernel) (Nat.le_of_ble_eq_true rfl) (L := [zr a0 0, zr a1 0, zu]) ⟨rfl, ⟨rfl, trivial⟩⟩ ?_
  refine wX12_copies_0 hk0 hi0 hk1 hi1 ?_
  have key : ∀ (f m : Nat), f + m = 26 → zT G (d + 1) mX12_copies 2 [zr a0 0, zr a1 0, zi (nI m)] [] (zsR h a1 0 (fun j => if j < m then h.1 a0 0 j else h.1 a1 0 j)) (fun r h' => r = none ∧ h' = zsR h a1 0 (fun j => if j < 26 then h.1 a0 0 j else h.1 a1 0 j)) := by
    intro f
    induction f with
    | zero =>
      intro m hm
      have e : m = 26 := by omega
      subst e
      refine wX12_copies_2 hk0 hi0 hk1 hi1 ?_
      exact br_t (by decide) ⟨rfl, rfl⟩
    | succ f ih =>
      intro m hm
      refine wX12_copies_2 hk0 hi0 hk1 hi1 ?_
      refine br_f (nI_ge (a := m) (b := 26) (by omega) (by decide)) ⟨vp_in_nI (by omega) (by decide), vp_in_nI (by omega) (by decide), ?_⟩
      intro h1 e1
      rw [e1, nI_cl (by omega), zsR_s1, zsR_at, if_neg (fun z => hne z.1), nI_1]
      have e2 : upd (fun j => if j < m then h.1 a0 0 j else h.1 a1 0 j) m (h.1 a0 0 m) = (fun j => if j < m + 1 then h.1 a0 0 j else h.1 a1 0 j) := by
        funext j
        unfold upd
        by_cases q : j = m
        · subst q
          rw [if_pos rfl, if_pos (by omega)]
        · rw [if_neg q]
          dsimp only
          by_cases q2 : j < m
          · rw [if_pos q2, if_pos (by omega)]
          · rw [if_neg q2, if_neg (by omega)]
      rw [e2]
      exact ih (m + 1) (by omega)
  have := key 26 0 (by omega)
  have e0 : (fun j => if j < 0 then h.1 a0 0 j else h.1 a1 0 j) = h.1 a1 0 := by
    funext j
    rw [if_neg (by omega)]
  rw [e0, zsR_id] at this
  exact this
/-- powers -/
def pwL (b : Int64) : Nat → Int64
  | 0 => 1
  | n + 1 => pwL b n * b
theorem sX11_powerOf {G : ZG} (d : Nat) {h : ZH} {x0 : Int32} {n : Nat} (hn : n ≤ 4096) : zC G (d + 1) mX11_powerOf [zi x0, zi (nI n)] h (fun r h' => r = some (zl (pwL x0.toInt64 n)) ∧ h' = h) := by
  refine zC_of (by decide +kernel) (Nat.le_of_ble_eq_true rfl) (L := [zi x0, zi (nI n), zu, zu, zu]) ⟨rfl, ⟨rfl, trivial⟩⟩ ?_
  refine wX11_powerOf_0 ?_
  have key : ∀ (f m : Nat), f + m = n → zT G (d + 1) mX11_powerOf 5 [zi x0, zi (nI n), zl (pwL x0.toInt64 m), zu, zi (nI m)] [] h (fun r h' => r = some (zl (pwL x0.toInt64 n)) ∧ h' = h) := by
    intro f
    induction f with
    | zero =>
      intro m hm
      have e : m = n := by omega
      subst e
      refine wX11_powerOf_5 ?_
      exact br_t (Int32.le_refl _) ⟨rfl, rfl⟩
    | succ f ih =>
      intro m hm
      refine wX11_powerOf_5 ?_
      refine br_f (nI_ge (by omega) (by omega)) ?_
      rw [nI_1]
      exact ih (m + 1) (by omega)
  exact key n 0 (by omega)
