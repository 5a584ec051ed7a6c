theorem vp8 {x : Int32} (h : 0 ≤ x ∧ x ≤ 7) : vp_in x 8 := by
  rw [vp_in_iff]
  obtain ⟨h1, h2⟩ := h
  rw [Int32.le_iff_toInt_le] at h1 h2
  exact ⟨h1, Int.lt_of_le_of_lt h2 (by decide)⟩
theorem vp12 {x : Int32} (h : 0 ≤ x ∧ x ≤ 11) : vp_in x 12 := by
  rw [vp_in_iff]
  obtain ⟨h1, h2⟩ := h
  rw [Int32.le_iff_toInt_le] at h1 h2
  exact ⟨h1, Int.lt_of_le_of_lt h2 (by decide)⟩
/-- an element of a shelf's row, -1 where there is none -/
def shAt (h : ZH) (i : Nat) (x : Int32) : Int32 := if 0 ≤ x ∧ x < h.1 3 i 4 then h.1 16 i x.toNatClampNeg else -1
def nextI (x0 : Int32) : Int32 := if x0 = 0 then ((2 : Int32) <<< ((bcI x0) &&& 31)) - 1 else if 4095 < ((x0 + (x0 &&& (-x0))) ||| ushI (x0 ^^^ (x0 + (x0 &&& (-x0)))) (2 + bcI ((x0 &&& (-x0)) - 1))) then ((2 : Int32) <<< ((bcI x0) &&& 31)) - 1 else (x0 + (x0 &&& (-x0))) ||| ushI (x0 ^^^ (x0 + (x0 &&& (-x0)))) (2 + bcI ((x0 &&& (-x0)) - 1))
def rowRefI (h : ZH) (d : Int32) : Int32 := if 0 ≤ d ∧ d ≤ 7 then (if h.1 3 d.toNatClampNeg 0 = 0 then -11 else if h.1 3 d.toNatClampNeg 0 = 2 then 0 else -12) else -1
def kindRefI (h : ZH) (d : Int32) : Int32 := if 0 ≤ d ∧ d ≤ 7 then (if h.1 3 d.toNatClampNeg 0 = 0 then -11 else if h.1 3 d.toNatClampNeg 0 = 2 then -12 else 0) else -1

theorem sX12_isPlace {G : ZG} (d : Nat) {h : ZH} {x0 : Int32}   : zC G (d + 2) mX12_isPlace [zi x0] h (fun r h' => r = some (zi (zb (0 ≤ x0 ∧ x0 ≤ 11))) ∧ h' = h) := by
  refine zC_of (by decide +kernel) (Nat.le_of_ble_eq_true rfl) (L := [zi x0]) ⟨rfl, trivial⟩ ?_
  refine wX12_isPlace_0  ?_
  exact ⟨rfl, rfl⟩

theorem sX12_isThere {G : ZG} (d : Nat) {h : ZH} {x1 : Int32}   : zC G (d + 2) mX12_isThere [zr 5 0, zi x1] h (fun r h' => r = some (zi (zb (hasI (h.1 30 0 0) x1))) ∧ h' = h) := by
  refine zC_of (by decide +kernel) (Nat.le_of_ble_eq_true rfl) (L := [zr 5 0, zi x1]) ⟨rfl, ⟨rfl, trivial⟩⟩ ?_
  refine wX12_isThere_0  ?_
  exact ⟨rfl, rfl⟩

theorem sX12_isShelf {G : ZG} (d : Nat) {h : ZH} {x0 : Int32}   : zC G (d + 2) mX12_isShelf [zi x0] h (fun r h' => r = some (zi (zb (0 ≤ x0 ∧ x0 ≤ 7))) ∧ h' = h) := by
  refine zC_of (by decide +kernel) (Nat.le_of_ble_eq_true rfl) (L := [zi x0]) ⟨rfl, trivial⟩ ?_
  refine wX12_isShelf_0  ?_
  exact ⟨rfl, rfl⟩

theorem sX12_isLight {G : ZG} (d : Nat) {h : ZH} {x1 : Int32}  (hp0 : vp_in x1 12) : zC G (d + 2) mX12_isLight [zr 5 0, zi x1] h (fun r h' => r = some (zi (zb (lightK (kindI h x1)))) ∧ h' = h) := by
  refine zC_of (by decide +kernel) (Nat.le_of_ble_eq_true rfl) (L := [zr 5 0, zi x1]) ⟨rfl, ⟨rfl, trivial⟩⟩ ?_
  refine wX12_isLight_0  ?_
  refine ⟨hp0, fun c => ⟨?_, rfl⟩, fun c => ⟨hp0, fun c2 => ⟨?_, rfl⟩, fun c2 => ⟨?_, rfl⟩⟩⟩
  · rw [zb_t (Or.inl c)]
  · rw [zb_f (fun q => q.elim c c2)]
  · rw [zb_t (Or.inr c2)]

theorem sX12_isArch {G : ZG} (d : Nat) {h : ZH} {x1 : Int32}  (hp0 : vp_in x1 12) : zC G (d + 2) mX12_isArch [zr 5 0, zi x1] h (fun r h' => r = some (zi (zb (archK (kindI h x1)))) ∧ h' = h) := by
  refine zC_of (by decide +kernel) (Nat.le_of_ble_eq_true rfl) (L := [zr 5 0, zi x1]) ⟨rfl, ⟨rfl, trivial⟩⟩ ?_
  refine wX12_isArch_0  ?_
  refine ⟨hp0, fun c => ⟨?_, rfl⟩, fun c => ⟨hp0, fun c2 => ⟨?_, rfl⟩, fun c2 => ⟨?_, rfl⟩⟩⟩
  · rw [zb_t (Or.inl c)]
  · rw [zb_f (fun q => q.elim c c2)]
  · rw [zb_t (Or.inr c2)]

theorem sX12_isAt {G : ZG} (d : Nat) {h : ZH} {x0 : Int32} {x1 : Int32} {x2 : Int32}   : zC G (d + 2) mX12_isAt [zi x0, zi x1, zi x2] h (fun r h' => r = some (zi (zb (atI x0 x1 x2))) ∧ h' = h) := by
  refine zC_of (by decide +kernel) (Nat.le_of_ble_eq_true rfl) (L := [zi x0, zi x1, zi x2]) ⟨rfl, ⟨rfl, ⟨rfl, trivial⟩⟩⟩ ?_
  refine wX12_isAt_0  ?_
  refine ⟨fun c => ⟨?_, rfl⟩, fun c => ⟨fun c2 => ⟨?_, rfl⟩, fun c2 => ⟨?_, rfl⟩⟩⟩
  · rw [zb_f (fun q => c q.1)]
  · rw [zb_f (fun q => c2 q.2)]
  · rw [zb_t ⟨c, c2⟩]

theorem sX12_weight {G : ZG} (d : Nat) {h : ZH} {x1 : Int32}  (hp0 : vp_in x1 12) : zC G (d + 2) mX12_weight [zr 5 0, zi x1] h (fun r h' => r = some (zi (wgtI (kindI h x1) (figI h x1))) ∧ h' = h) := by
  refine zC_of (by decide +kernel) (Nat.le_of_ble_eq_true rfl) (L := [zr 5 0, zi x1, zu]) ⟨rfl, ⟨rfl, trivial⟩⟩ ?_
  refine wX12_weight_0  ?_
  unfold wgtI
  refine ⟨hp0, hp0, fun c1 => ⟨?_, rfl⟩, fun c1 => ⟨fun c2 => ⟨?_, rfl⟩, fun c2 => ⟨fun c3 => ⟨?_, rfl⟩, fun c3 => ⟨fun c4 => ⟨?_, rfl⟩, fun c4 => ⟨fun c5 => ⟨?_, rfl⟩, fun c5 => ⟨fun c6 => ⟨?_, rfl⟩, fun c6 => ⟨fun c7 => ⟨?_, rfl⟩, fun c7 => ⟨?_, rfl⟩⟩⟩⟩⟩⟩⟩⟩
  · rw [if_pos (Or.inl c1)]
  · rw [c2]; rfl
  · rw [c3]; rfl
  · rw [c4]; rfl
  · rw [c5]; rfl
  · rw [c6]; rfl
  · rw [c7]; rfl
  · rw [if_neg (fun q => q.elim c1 c5), if_neg c2, if_neg c3, if_neg c4, if_neg c6, if_neg c7]

theorem sX12_bears {G : ZG} (d : Nat) {h : ZH} {x1 : Int32}  (hp0 : vp_in x1 12) : zC G (d + 2) mX12_bears [zr 5 0, zi x1] h (fun r h' => r = some (zi (brsI (kindI h x1) (figI h x1))) ∧ h' = h) := by
  refine zC_of (by decide +kernel) (Nat.le_of_ble_eq_true rfl) (L := [zr 5 0, zi x1]) ⟨rfl, ⟨rfl, trivial⟩⟩ ?_
  refine wX12_bears_0  ?_
  unfold brsI
  refine ⟨hp0, fun c1 => ⟨?_, rfl⟩, fun c1 => ⟨fun c2 => ⟨?_, rfl⟩, fun c2 => ⟨fun c3 => ⟨?_, rfl⟩, fun c3 => ⟨fun c4 => ⟨hp0, ?_, rfl⟩, fun c4 => ⟨fun c5 => ⟨hp0, ?_, rfl⟩, fun c5 => ⟨fun c6 => ⟨?_, rfl⟩, fun c6 => ⟨fun c7 => ⟨?_, rfl⟩, fun c7 => ⟨?_, rfl⟩⟩⟩⟩⟩⟩⟩⟩
  · rw [c1]; rfl
  · rw [c2]; rfl
  · rw [c3]; rfl
  · rw [c4]; rfl
  · rw [c5]; rfl
  · rw [c6]; rfl
  · rw [c7]; rfl
  · rw [if_neg c1, if_neg c5, if_neg c2, if_neg c4, if_neg c3, if_neg c6, if_neg c7]

theorem sX8_at {G : ZG} (d : Nat) {h : ZH} {i0 : Nat} {x1 : Int32} (hi0 : i0 < zcnt 3) (hp0 : h.1 3 i0 4 ≤ 100) : zC G (d + 2) mX8_at [zr 3 i0, zi x1] h (fun r h' => r = some (zi (shAt h i0 x1)) ∧ h' = h) := by
  refine zC_of (by decide +kernel) (Nat.le_of_ble_eq_true rfl) (L := [zr 3 i0, zi x1]) ⟨rfl, ⟨rfl, trivial⟩⟩ ?_
  refine wX8_at_0 hi0 ?_
  unfold shAt
  refine ⟨fun c => ⟨?_, rfl⟩, fun c => ⟨?_, ?_, rfl⟩⟩
  · rw [if_neg c]
  · rw [vp_in_iff]
    obtain ⟨h1, h2⟩ := c
    rw [Int32.le_iff_toInt_le] at h1 hp0
    rw [Int32.lt_iff_toInt_lt] at h2
    exact ⟨h1, Int.lt_of_lt_of_le h2 hp0⟩
  · rw [if_pos c]

theorem sX4_holds {G : ZG} (d : Nat) {h : ZH} {i0 : Nat} {x1 : Int32} (hi0 : i0 < zcnt 2)  : zC G (d + 2) mX4_holds [zr 2 i0, zi x1] h (fun r h' => r = some (zi (zb (hasI (h.1 2 i0 6) x1))) ∧ h' = h) := by
  refine zC_of (by decide +kernel) (Nat.le_of_ble_eq_true rfl) (L := [zr 2 i0, zi x1]) ⟨rfl, ⟨rfl, trivial⟩⟩ ?_
  refine wX4_holds_0 hi0 ?_
  exact ⟨rfl, rfl⟩

theorem sX3_nextChoice {G : ZG} (d : Nat) {h : ZH} {x0 : Int32}   : zC G (d + 2) mX3_nextChoice [zi x0] h (fun r h' => r = some (zi (nextI x0)) ∧ h' = h) := by
  refine zC_of (by decide +kernel) (Nat.le_of_ble_eq_true rfl) (L := [zi x0, zu, zu, zu, zu]) ⟨rfl, trivial⟩ ?_
  refine wX3_nextChoice_0  ?_
  unfold nextI
  refine ⟨fun c => ?_, fun c => ⟨?_, rfl⟩⟩
  · intro y1 e1
    subst e1
    refine ⟨fun c2 => ⟨?_, rfl⟩, fun c2 => ⟨?_, rfl⟩⟩
    · rw [if_neg c, if_pos c2]
    · rw [if_neg c, if_neg c2]
  · rw [if_pos c]

theorem sX0_weight {G : ZG} (d : Nat) {h : ZH} {i0 : Nat} {x1 : Int32} (hi0 : i0 < zcnt 4)  : zC G (d + 2) mX0_weight [zr 4 i0, zi x1] h (fun r h' => r = some (zi (2 + x1 - 1)) ∧ h' = h) := by
  refine zC_of (by decide +kernel) (Nat.le_of_ble_eq_true rfl) (L := [zr 4 i0, zi x1]) ⟨rfl, ⟨rfl, trivial⟩⟩ ?_
  refine wX0_weight_0 hi0 ?_
  exact ⟨rfl, rfl⟩

theorem sX0_bears {G : ZG} (d : Nat) {h : ZH} {i0 : Nat} {x1 : Int32} (hi0 : i0 < zcnt 4)  : zC G (d + 2) mX0_bears [zr 4 i0, zi x1] h (fun r h' => r = some (zi (20 - 8)) ∧ h' = h) := by
  refine zC_of (by decide +kernel) (Nat.le_of_ble_eq_true rfl) (L := [zr 4 i0, zi x1]) ⟨rfl, ⟨rfl, trivial⟩⟩ ?_
  refine wX0_bears_0 hi0 ?_
  exact ⟨rfl, rfl⟩

theorem sX0_price {G : ZG} (d : Nat) {h : ZH} {i0 : Nat} {x1 : Int32} (hi0 : i0 < zcnt 4)  : zC G (d + 2) mX0_price [zr 4 i0, zi x1] h (fun r h' => r = some (zi (2 + 3)) ∧ h' = h) := by
  refine zC_of (by decide +kernel) (Nat.le_of_ble_eq_true rfl) (L := [zr 4 i0, zi x1]) ⟨rfl, ⟨rfl, trivial⟩⟩ ?_
  refine wX0_price_0 hi0 ?_
  exact ⟨rfl, rfl⟩

theorem sX2_weight {G : ZG} (d : Nat) {h : ZH} {i0 : Nat} {x1 : Int32} (hi0 : i0 < zcnt 4)  : zC G (d + 2) mX2_weight [zr 4 i0, zi x1] h (fun r h' => r = some (zi (2 + x1 + 3)) ∧ h' = h) := by
  refine zC_of (by decide +kernel) (Nat.le_of_ble_eq_true rfl) (L := [zr 4 i0, zi x1]) ⟨rfl, ⟨rfl, trivial⟩⟩ ?_
  refine wX2_weight_0 hi0 ?_
  exact ⟨rfl, rfl⟩

theorem sX2_bears {G : ZG} (d : Nat) {h : ZH} {i0 : Nat} {x1 : Int32} (hi0 : i0 < zcnt 4)  : zC G (d + 2) mX2_bears [zr 4 i0, zi x1] h (fun r h' => r = some (zi (2 * 20)) ∧ h' = h) := by
  refine zC_of (by decide +kernel) (Nat.le_of_ble_eq_true rfl) (L := [zr 4 i0, zi x1]) ⟨rfl, ⟨rfl, trivial⟩⟩ ?_
  refine wX2_bears_0 hi0 ?_
  exact ⟨rfl, rfl⟩

theorem sX2_price {G : ZG} (d : Nat) {h : ZH} {i0 : Nat} {x1 : Int32} (hi0 : i0 < zcnt 4)  : zC G (d + 2) mX2_price [zr 4 i0, zi x1] h (fun r h' => r = some (zi (2 + x1)) ∧ h' = h) := by
  refine zC_of (by decide +kernel) (Nat.le_of_ble_eq_true rfl) (L := [zr 4 i0, zi x1]) ⟨rfl, ⟨rfl, trivial⟩⟩ ?_
  refine wX2_price_0 hi0 ?_
  exact ⟨rfl, rfl⟩

theorem sX7_price {G : ZG} (d : Nat) {h : ZH} {i0 : Nat} {x1 : Int32} (hi0 : i0 < zcnt 4)  : zC G (d + 2) mX7_price [zr 4 i0, zi x1] h (fun r h' => r = some (zi (2 - 1)) ∧ h' = h) := by
  refine zC_of (by decide +kernel) (Nat.le_of_ble_eq_true rfl) (L := [zr 4 i0, zi x1]) ⟨rfl, ⟨rfl, trivial⟩⟩ ?_
  refine wX7_price_0 hi0 ?_
  exact ⟨rfl, rfl⟩

theorem sX11_rowRefused {G : ZG} (d : Nat) {h : ZH} {x1 : Int32}   : zC G (d + 2) mX11_rowRefused [zr 0 0, zi x1] h (fun r h' => r = some (zi (rowRefI h x1)) ∧ h' = h) := by
  refine zC_of (by decide +kernel) (Nat.le_of_ble_eq_true rfl) (L := [zr 0 0, zi x1]) ⟨rfl, ⟨rfl, trivial⟩⟩ ?_
  refine wX11_rowRefused_0  ?_
  unfold rowRefI
  refine ⟨fun c => ⟨vp8 c, fun c2 => ⟨vp8 c, fun c3 => ⟨?_, rfl⟩, fun c3 => ⟨?_, rfl⟩⟩, fun c2 => ⟨?_, rfl⟩⟩, fun c => ⟨?_, rfl⟩⟩
  · rw [if_pos c, if_neg c2, if_neg c3]
  · rw [if_pos c, if_neg c2, if_pos c3]
  · rw [if_pos c, if_pos c2]
  · rw [if_neg c]

theorem sX11_kindRefused {G : ZG} (d : Nat) {h : ZH} {x1 : Int32}   : zC G (d + 2) mX11_kindRefused [zr 0 0, zi x1] h (fun r h' => r = some (zi (kindRefI h x1)) ∧ h' = h) := by
  refine zC_of (by decide +kernel) (Nat.le_of_ble_eq_true rfl) (L := [zr 0 0, zi x1]) ⟨rfl, ⟨rfl, trivial⟩⟩ ?_
  refine wX11_kindRefused_0  ?_
  unfold kindRefI
  refine ⟨fun c => ⟨vp8 c, fun c2 => ⟨vp8 c, fun c3 => ⟨?_, rfl⟩, fun c3 => ⟨?_, rfl⟩⟩, fun c2 => ⟨?_, rfl⟩⟩, fun c => ⟨?_, rfl⟩⟩
  · rw [if_pos c, if_neg c2, if_neg c3]
  · rw [if_pos c, if_neg c2, if_pos c3]
  · rw [if_pos c, if_pos c2]
  · rw [if_neg c]
