def wKeptI (h : ZH) (d : Int32) : Int32 := if 0 ≤ d ∧ d ≤ 7 then (if h.1 38 0 d.toNatClampNeg = 0 then -11 else if h.1 38 0 d.toNatClampNeg = 2 then -12 else 0) else -1
def wRowI (h : ZH) (d a : Int32) : Int32 := if 0 ≤ d ∧ d ≤ 7 then (if h.1 38 0 d.toNatClampNeg = 0 then -11 else if h.1 38 0 d.toNatClampNeg = 2 then (if a < 0 then 0 else if h.1 41 0 d.toNatClampNeg = a then 0 else -12) else -12) else -1
def wStoneI (h : ZH) (p : Int32) : Int32 := if 0 ≤ p ∧ p ≤ 11 then (if hasI (h.1 30 0 0) p then 0 else -3) else -1
def stRefI (h : ZH) (p : Int32) : Int32 := if 0 ≤ p ∧ p ≤ 11 then (if hasI (h.1 2 0 6) p then 0 else -3) else -1

theorem sX12_isLeft {G : ZG} (d : Nat) {h : ZH} {x1 : Int32} {x2 : Int32}   : zC G (d + 3) mX12_isLeft [zr 5 0, zi x1, zi x2] h (fun r h' => r = some (zi (zb (leftI x1 x2))) ∧ h' = h) := by
  refine zC_of (by decide +kernel) (Nat.le_of_ble_eq_true rfl) (L := [zr 5 0, zi x1, zi x2]) ⟨rfl, ⟨rfl, ⟨rfl, trivial⟩⟩⟩ ?_
  refine wX12_isLeft_0  ?_
  exact ⟨rfl, rfl⟩

theorem sX12_isRight {G : ZG} (d : Nat) {h : ZH} {x1 : Int32} {x2 : Int32}   : zC G (d + 3) mX12_isRight [zr 5 0, zi x1, zi x2] h (fun r h' => r = some (zi (zb (rightI x1 x2))) ∧ h' = h) := by
  refine zC_of (by decide +kernel) (Nat.le_of_ble_eq_true rfl) (L := [zr 5 0, zi x1, zi x2]) ⟨rfl, ⟨rfl, ⟨rfl, trivial⟩⟩⟩ ?_
  refine wX12_isRight_0  ?_
  exact ⟨rfl, rfl⟩

theorem sX12_isClinging {G : ZG} (d : Nat) {h : ZH} {x1 : Int32} {x2 : Int32}  (hp0 : vp_in x2 12) : zC G (d + 3) mX12_isClinging [zr 5 0, zi x1, zi x2] h (fun r h' => r = some (zi (zb (clingI h x1 x2))) ∧ h' = h) := by
  refine zC_of (by decide +kernel) (Nat.le_of_ble_eq_true rfl) (L := [zr 5 0, zi x1, zi x2, zu, zu, zu]) ⟨rfl, ⟨rfl, ⟨rfl, trivial⟩⟩⟩ ?_
  refine wX12_isClinging_0  ?_
  refine ⟨fun c => ⟨fun c2 => ⟨?_, rfl⟩, fun c2 => ⟨vp_r hp0 c2.1.2, fun c3 => ⟨?_, rfl⟩, fun c3 => ⟨?_, rfl⟩⟩⟩, fun c => ⟨vp_l hp0 c.1.1, fun c4 => ⟨fun c2 => ⟨?_, rfl⟩, fun c2 => ⟨vp_r hp0 c2.1.2, fun c3 => ⟨?_, rfl⟩, fun c3 => ⟨?_, rfl⟩⟩⟩, fun c4 => ⟨?_, rfl⟩⟩⟩
  · rw [zb_f (fun q => q.elim (fun z => c z.1) (fun z => c2 z.1))]
  · rw [zb_f (fun q => q.elim (fun z => c z.1) (fun z => z.2 c3))]
  · rw [zb_t (Or.inr ⟨c2, c3⟩)]
  · rw [zb_f (fun q => q.elim (fun z => z.2 c4) (fun z => c2 z.1))]
  · rw [zb_f (fun q => q.elim (fun z => z.2 c4) (fun z => z.2 c3))]
  · rw [zb_t (Or.inr ⟨c2, c3⟩)]
  · rw [zb_t (Or.inl ⟨c, c4⟩)]

theorem sX12_noteOf {G : ZG} (d : Nat) {h : ZH} {x1 : Int32}  (hp0 : vp_in x1 12) : zC G (d + 3) mX12_noteOf [zr 5 0, zi x1] h (fun r h' => r = some (zi (noteI (wgtI (kindI h x1) (figI h x1)) (h.1 33 0 x1.toNatClampNeg))) ∧ h' = h) := by
  refine zC_of (by decide +kernel) (Nat.le_of_ble_eq_true rfl) (L := [zr 5 0, zi x1]) ⟨rfl, ⟨rfl, trivial⟩⟩ ?_
  refine wX12_noteOf_0  ?_
  exact ⟨hp0, hp0, rfl, rfl⟩

theorem sX12_wrongKept {G : ZG} (d : Nat) {h : ZH} {x1 : Int32}   : zC G (d + 3) mX12_wrongKept [zr 5 0, zi x1] h (fun r h' => r = some (zi (wKeptI h x1)) ∧ h' = h) := by
  refine zC_of (by decide +kernel) (Nat.le_of_ble_eq_true rfl) (L := [zr 5 0, zi x1]) ⟨rfl, ⟨rfl, trivial⟩⟩ ?_
  refine wX12_wrongKept_0  ?_
  unfold wKeptI
  refine ⟨fun c => ⟨vp8 c, fun c2 => ⟨vp8 c, fun c3 => ⟨?_, rfl⟩, fun c3 => ⟨?_, rfl⟩⟩, fun c2 => ⟨?_, rfl⟩⟩, fun c => ⟨?_, rfl⟩⟩
  · rw [if_pos c, if_neg c2, if_neg c3]
  · rw [if_pos c, if_neg c2, if_pos c3]
  · rw [if_pos c, if_pos c2]
  · rw [if_neg c]

theorem sX12_wrongRow {G : ZG} (d : Nat) {h : ZH} {x1 : Int32} {x2 : Int32}   : zC G (d + 3) mX12_wrongRow [zr 5 0, zi x1, zi x2] h (fun r h' => r = some (zi (wRowI h x1 x2)) ∧ h' = h) := by
  refine zC_of (by decide +kernel) (Nat.le_of_ble_eq_true rfl) (L := [zr 5 0, zi x1, zi x2]) ⟨rfl, ⟨rfl, ⟨rfl, trivial⟩⟩⟩ ?_
  refine wX12_wrongRow_0  ?_
  unfold wRowI
  refine ⟨fun c => ⟨vp8 c, fun c2 => ⟨vp8 c, fun c3 => ⟨?_, rfl⟩, fun c3 => ⟨fun c4 => ⟨?_, rfl⟩, fun c4 => ⟨vp8 c, fun c5 => ⟨?_, rfl⟩, fun c5 => ⟨?_, rfl⟩⟩⟩⟩, fun c2 => ⟨?_, rfl⟩⟩, fun c => ⟨?_, rfl⟩⟩
  · rw [if_pos c, if_neg c2, if_neg c3]
  · rw [if_pos c, if_neg c2, if_pos c3, if_pos c4]
  · rw [if_pos c, if_neg c2, if_pos c3, if_neg c4, if_pos c5]
  · rw [if_pos c, if_neg c2, if_pos c3, if_neg c4, if_neg c5]
  · rw [if_pos c, if_pos c2]
  · rw [if_neg c]

theorem sX12_wrongStone {G : ZG} (d : Nat) {h : ZH} {x1 : Int32}   : zC G (d + 3) mX12_wrongStone [zr 5 0, zi x1] h (fun r h' => r = some (zi (wStoneI h x1)) ∧ h' = h) := by
  refine zC_of (by decide +kernel) (Nat.le_of_ble_eq_true rfl) (L := [zr 5 0, zi x1]) ⟨rfl, ⟨rfl, trivial⟩⟩ ?_
  refine wX12_wrongStone_0  ?_
  unfold wStoneI
  refine ⟨fun c => ⟨fun c2 => ⟨?_, rfl⟩, fun c2 => ⟨?_, rfl⟩⟩, fun c => ⟨?_, rfl⟩⟩
  · rw [if_pos c, if_neg c2]
  · rw [if_pos c, if_pos c2]
  · rw [if_neg c]

theorem sX11_stoneRefused {G : ZG} (d : Nat) {h : ZH} {x1 : Int32}   : zC G (d + 3) mX11_stoneRefused [zr 0 0, zi x1] h (fun r h' => r = some (zi (stRefI h x1)) ∧ h' = h) := by
  refine zC_of (by decide +kernel) (Nat.le_of_ble_eq_true rfl) (L := [zr 0 0, zi x1]) ⟨rfl, ⟨rfl, trivial⟩⟩ ?_
  refine wX11_stoneRefused_0  ?_
  unfold stRefI
  refine ⟨fun c => ⟨fun c2 => ⟨?_, rfl⟩, fun c2 => ⟨?_, rfl⟩⟩, fun c => ⟨?_, rfl⟩⟩
  · rw [if_pos c, if_neg c2]
  · rw [if_pos c, if_pos c2]
  · rw [if_neg c]

theorem sX11_digitAt {G : ZG} (d : Nat) {h : ZH} {i0 : Nat} {x1 : Int32} (hi0 : i0 < zcnt 3) (hp0 : h.1 3 i0 4 ≤ 100) : zC G (d + 3) mX11_digitAt [zr 3 i0, zi x1] h (fun r h' => r = some (zi (shAt h i0 x1 - 48)) ∧ h' = h) := by
  refine zC_of (by decide +kernel) (Nat.le_of_ble_eq_true rfl) (L := [zr 3 i0, zi x1]) ⟨rfl, ⟨rfl, trivial⟩⟩ ?_
  refine wX11_digitAt_0 hi0 ?_
  exact ⟨hp0, rfl, rfl⟩

theorem sX5_weight {G : ZG} (d : Nat) {h : ZH} {i0 : Nat} {x1 : Int32} (hi0 : i0 < zcnt 4)  : zC G (d + 3) mX5_weight [zr 4 i0, zi x1] h (fun r h' => r = some (zi (2 + x1 - 1 + x1)) ∧ h' = h) := by
  refine zC_of (by decide +kernel) (Nat.le_of_ble_eq_true rfl) (L := [zr 4 i0, zi x1]) ⟨rfl, ⟨rfl, trivial⟩⟩ ?_
  refine wX5_weight_0 hi0 ?_
  exact ⟨rfl, rfl⟩

theorem sX5_bears {G : ZG} (d : Nat) {h : ZH} {i0 : Nat} {x1 : Int32} (hi0 : i0 < zcnt 4)  : zC G (d + 3) mX5_bears [zr 4 i0, zi x1] h (fun r h' => r = some (zi ((20 : Int32) - 8 + x1)) ∧ h' = h) := by
  refine zC_of (by decide +kernel) (Nat.le_of_ble_eq_true rfl) (L := [zr 4 i0, zi x1]) ⟨rfl, ⟨rfl, trivial⟩⟩ ?_
  refine wX5_bears_0 hi0 ?_
  exact ⟨rfl, rfl⟩

theorem sX5_price {G : ZG} (d : Nat) {h : ZH} {i0 : Nat} {x1 : Int32} (hi0 : i0 < zcnt 4)  : zC G (d + 3) mX5_price [zr 4 i0, zi x1] h (fun r h' => r = some (zi ((2 : Int32) + 3 + x1)) ∧ h' = h) := by
  refine zC_of (by decide +kernel) (Nat.le_of_ble_eq_true rfl) (L := [zr 4 i0, zi x1]) ⟨rfl, ⟨rfl, trivial⟩⟩ ?_
  refine wX5_price_0 hi0 ?_
  exact ⟨rfl, rfl⟩

theorem sX9_bears {G : ZG} (d : Nat) {h : ZH} {i0 : Nat} {x1 : Int32} (hi0 : i0 < zcnt 4)  : zC G (d + 3) mX9_bears [zr 4 i0, zi x1] h (fun r h' => r = some (zi ((2 : Int32) * 20 - x1)) ∧ h' = h) := by
  refine zC_of (by decide +kernel) (Nat.le_of_ble_eq_true rfl) (L := [zr 4 i0, zi x1]) ⟨rfl, ⟨rfl, trivial⟩⟩ ?_
  refine wX9_bears_0 hi0 ?_
  exact ⟨rfl, rfl⟩

theorem sX9_price {G : ZG} (d : Nat) {h : ZH} {i0 : Nat} {x1 : Int32} (hi0 : i0 < zcnt 4)  : zC G (d + 3) mX9_price [zr 4 i0, zi x1] h (fun r h' => r = some (zi (2 * (2 + x1))) ∧ h' = h) := by
  refine zC_of (by decide +kernel) (Nat.le_of_ble_eq_true rfl) (L := [zr 4 i0, zi x1]) ⟨rfl, ⟨rfl, trivial⟩⟩ ?_
  refine wX9_price_0 hi0 ?_
  exact ⟨rfl, rfl⟩

theorem sX1_weight {G : ZG} (d : Nat) {h : ZH} {i0 : Nat} {x1 : Int32} (hi0 : i0 < zcnt 4)  : zC G (d + 3) mX1_weight [zr 4 i0, zi x1] h (fun r h' => r = some (zi (2 * (2 + x1 - 1))) ∧ h' = h) := by
  refine zC_of (by decide +kernel) (Nat.le_of_ble_eq_true rfl) (L := [zr 4 i0, zi x1]) ⟨rfl, ⟨rfl, trivial⟩⟩ ?_
  refine wX1_weight_0 hi0 ?_
  exact ⟨rfl, rfl⟩

theorem sX1_bears {G : ZG} (d : Nat) {h : ZH} {i0 : Nat} {x1 : Int32} (hi0 : i0 < zcnt 4)  : zC G (d + 3) mX1_bears [zr 4 i0, zi x1] h (fun r h' => r = some (zi (((20 : Int32) - 8) / 2)) ∧ h' = h) := by
  refine zC_of (by decide +kernel) (Nat.le_of_ble_eq_true rfl) (L := [zr 4 i0, zi x1]) ⟨rfl, ⟨rfl, trivial⟩⟩ ?_
  refine wX1_bears_0 hi0 ?_
  exact ⟨rfl, rfl⟩

theorem sX1_price {G : ZG} (d : Nat) {h : ZH} {i0 : Nat} {x1 : Int32} (hi0 : i0 < zcnt 4)  : zC G (d + 3) mX1_price [zr 4 i0, zi x1] h (fun r h' => r = some (zi (((2 : Int32) + 3) / 2)) ∧ h' = h) := by
  refine zC_of (by decide +kernel) (Nat.le_of_ble_eq_true rfl) (L := [zr 4 i0, zi x1]) ⟨rfl, ⟨rfl, trivial⟩⟩ ?_
  refine wX1_price_0 hi0 ?_
  exact ⟨rfl, rfl⟩
