theorem sX12_isIn {G : ZG} (d : Nat) {h : ZH} {x0 : Int32} {x1 : Int32} {x2 : Int32}   : zC G (d + 1) mX12_isIn [zi x0, zi x1, zi x2] h (fun r h' => r = some (zi (zb (x1 ≤ x0 ∧ x0 ≤ x2))) ∧ h' = h) := by
  refine zC_of (by decide +kernel) (Nat.le_of_ble_eq_true rfl) (L := [zi x0, zi x1, zi x2]) ⟨rfl, ⟨rfl, ⟨rfl, trivial⟩⟩⟩ ?_
  refine wX12_isIn_0  ?_
  refine ⟨fun c => ⟨?_, rfl⟩, fun c => ⟨fun c2 => ⟨?_, rfl⟩, fun c2 => ⟨?_, rfl⟩⟩⟩
  · rw [zb_f (fun q => Int32.not_le.mpr c q.1)]
  · rw [zb_f (fun q => Int32.not_le.mpr c2 q.2)]
  · rw [zb_t ⟨Int32.not_lt.mp c, Int32.not_lt.mp c2⟩]

theorem sX12_most {G : ZG} (d : Nat) {h : ZH} {x0 : Int32} {x1 : Int32}   : zC G (d + 1) mX12_most [zi x0, zi x1] h (fun r h' => r = some (zi (zmax x0 x1)) ∧ h' = h) := by
  refine zC_of (by decide +kernel) (Nat.le_of_ble_eq_true rfl) (L := [zi x0, zi x1]) ⟨rfl, ⟨rfl, trivial⟩⟩ ?_
  refine wX12_most_0  ?_
  refine ⟨fun c => ⟨?_, rfl⟩, fun c => ⟨?_, rfl⟩⟩
  · unfold zmax; rw [if_pos c]
  · unfold zmax; rw [if_neg c]

theorem sX12_has {G : ZG} (d : Nat) {h : ZH} {x0 : Int32} {x1 : Int32}   : zC G (d + 1) mX12_has [zi x0, zi x1] h (fun r h' => r = some (zi (zb (hasI x0 x1))) ∧ h' = h) := by
  refine zC_of (by decide +kernel) (Nat.le_of_ble_eq_true rfl) (L := [zi x0, zi x1]) ⟨rfl, ⟨rfl, trivial⟩⟩ ?_
  refine wX12_has_0  ?_
  repeat' (first | (refine ⟨?_, ?_⟩ <;> intro c) | fail)
  all_goals (refine ⟨?_, rfl⟩)
  all_goals (first | rfl | (refine congrArg (fun z => some (Sum.inl z)) ?_; first | (refine (zb_t ?_).symm; (try simp only [← Int32.not_le] at *); first | exact c | (simp_all; done)) | (refine (zb_f ?_).symm; (try simp only [← Int32.not_le] at *); first | exact c | (simp_all; done)) | (simp_all; done)))

theorem sX4_has {G : ZG} (d : Nat) {h : ZH} {x0 : Int32} {x1 : Int32}   : zC G (d + 1) mX4_has [zi x0, zi x1] h (fun r h' => r = some (zi (zb (hasI x0 x1))) ∧ h' = h) := by
  refine zC_of (by decide +kernel) (Nat.le_of_ble_eq_true rfl) (L := [zi x0, zi x1]) ⟨rfl, ⟨rfl, trivial⟩⟩ ?_
  refine wX4_has_0  ?_
  refine ⟨fun c => ⟨?_, rfl⟩, fun c => ⟨?_, rfl⟩⟩
  · rw [zb_f (hasI_0.mp c)]
  · rw [zb_t (Classical.byContradiction fun q => c (hasI_0.mpr q))]

theorem sX11_isPlace {G : ZG} (d : Nat) {h : ZH} {x0 : Int32}   : zC G (d + 1) mX11_isPlace [zi x0] h (fun r h' => r = some (zi (zb (0 ≤ x0 ∧ x0 ≤ 11))) ∧ h' = h) := by
  refine zC_of (by decide +kernel) (Nat.le_of_ble_eq_true rfl) (L := [zi x0]) ⟨rfl, trivial⟩ ?_
  refine wX11_isPlace_0  ?_
  refine ⟨fun c => ⟨?_, rfl⟩, fun c => ⟨fun c2 => ⟨?_, rfl⟩, fun c2 => ⟨?_, rfl⟩⟩⟩
  · rw [zb_f (fun q => Int32.not_le.mpr c q.1)]
  · rw [zb_f (fun q => by have := q.2; rw [Int32.le_iff_toInt_le] at this c2; have e1 : (11 : Int32).toInt = 11 := by decide
                          have e2 : (12 : Int32).toInt = 12 := by decide
                          omega)]
  · rw [zb_t ⟨Int32.not_lt.mp c, by have h3 := Int32.not_le.mp c2; rw [Int32.lt_iff_toInt_lt] at h3; rw [Int32.le_iff_toInt_le]; have e1 : (11 : Int32).toInt = 11 := by decide
                                    have e2 : (12 : Int32).toInt = 12 := by decide
                                    omega⟩]

theorem sX11_isShelf {G : ZG} (d : Nat) {h : ZH} {x0 : Int32}   : zC G (d + 1) mX11_isShelf [zi x0] h (fun r h' => r = some (zi (zb (0 ≤ x0 ∧ x0 ≤ 7))) ∧ h' = h) := by
  refine zC_of (by decide +kernel) (Nat.le_of_ble_eq_true rfl) (L := [zi x0]) ⟨rfl, trivial⟩ ?_
  refine wX11_isShelf_0  ?_
  refine ⟨fun c => ⟨?_, rfl⟩, fun c => ⟨fun c2 => ⟨?_, rfl⟩, fun c2 => ⟨?_, rfl⟩⟩⟩
  · rw [zb_f (fun q => Int32.not_le.mpr c q.1)]
  · rw [zb_f (fun q => by have := q.2; rw [Int32.le_iff_toInt_le] at this c2; have e1 : (7 : Int32).toInt = 7 := by decide
                          have e2 : (8 : Int32).toInt = 8 := by decide
                          omega)]
  · rw [zb_t ⟨Int32.not_lt.mp c, by have h3 := Int32.not_le.mp c2; rw [Int32.lt_iff_toInt_lt] at h3; rw [Int32.le_iff_toInt_le]; have e1 : (7 : Int32).toInt = 7 := by decide
                                    have e2 : (8 : Int32).toInt = 8 := by decide
                                    omega⟩]

theorem sX11_isEither {G : ZG} (d : Nat) {h : ZH} {x0 : Int32}   : zC G (d + 1) mX11_isEither [zi x0] h (fun r h' => r = some (zi (zb (0 ≤ x0 ∧ x0 ≤ 1))) ∧ h' = h) := by
  refine zC_of (by decide +kernel) (Nat.le_of_ble_eq_true rfl) (L := [zi x0]) ⟨rfl, trivial⟩ ?_
  refine wX11_isEither_0  ?_
  refine ⟨fun c => ⟨?_, rfl⟩, fun c => ⟨fun c2 => ⟨?_, rfl⟩, fun c2 => ⟨?_, rfl⟩⟩⟩
  · rw [c]; rfl
  · rw [zb_f (fun q => by
      obtain ⟨q1, q2⟩ := q
      rw [Int32.le_iff_toInt_le] at q1 q2
      have e1 : (1 : Int32).toInt = 1 := by decide
      have e0 : (0 : Int32).toInt = 0 := by decide
      have : x0.toInt = 0 ∨ x0.toInt = 1 := by omega
      rcases this with z | z
      · exact c (Int32.toInt_inj.mp (z.trans e0.symm))
      · exact c2 (Int32.toInt_inj.mp (z.trans e1.symm)))]
  · rw [c2]; rfl

theorem sX11_isSomeStones {G : ZG} (d : Nat) {h : ZH} {x0 : Int32}   : zC G (d + 1) mX11_isSomeStones [zi x0] h (fun r h' => r = some (zi (zb (1 ≤ x0 ∧ x0 ≤ 12))) ∧ h' = h) := by
  refine zC_of (by decide +kernel) (Nat.le_of_ble_eq_true rfl) (L := [zi x0]) ⟨rfl, trivial⟩ ?_
  refine wX11_isSomeStones_0  ?_
  refine ⟨fun c => ⟨?_, rfl⟩, fun c => ⟨fun c2 => ⟨?_, rfl⟩, fun c2 => ⟨?_, rfl⟩⟩⟩
  · rw [zb_f (fun q => Int32.not_le.mpr c q.1)]
  · rw [zb_f (fun q => Int32.not_le.mpr c2 q.2)]
  · rw [zb_t ⟨Int32.not_lt.mp c, Int32.not_lt.mp c2⟩]

theorem sX11_digitsBehind {G : ZG} (d : Nat) {h : ZH} {x0 : Int32}   : zC G (d + 1) mX11_digitsBehind [zi x0] h (fun r h' => r = some (zi (dbI x0)) ∧ h' = h) := by
  refine zC_of (by decide +kernel) (Nat.le_of_ble_eq_true rfl) (L := [zi x0]) ⟨rfl, trivial⟩ ?_
  refine wX11_digitsBehind_0  ?_
  unfold dbI
  refine ⟨fun c => ⟨fun c2 => ⟨?_, rfl⟩, fun c2 => ⟨fun c3 => ⟨?_, rfl⟩, fun c3 => ⟨?_, rfl⟩⟩⟩, fun c => ⟨?_, rfl⟩⟩
  · rw [if_neg c, if_pos (Or.inl c2)]
  · rw [if_neg c, if_neg (fun q => q.elim c2 c3)]
  · rw [if_neg c, if_pos (Or.inr c3)]
  · rw [if_pos c]

theorem sX8_isEmpty {G : ZG} (d : Nat) {h : ZH} {i0 : Nat} (hi0 : i0 < zcnt 3)  : zC G (d + 1) mX8_isEmpty [zr 3 i0] h (fun r h' => r = some (zi (zb (h.1 3 i0 0 = 0))) ∧ h' = h) := by
  refine zC_of (by decide +kernel) (Nat.le_of_ble_eq_true rfl) (L := [zr 3 i0]) ⟨rfl, trivial⟩ ?_
  refine wX8_isEmpty_0 hi0 ?_
  repeat' (first | (refine ⟨?_, ?_⟩ <;> intro c) | fail)
  all_goals (refine ⟨?_, rfl⟩)
  all_goals (first | rfl | (refine congrArg (fun z => some (Sum.inl z)) ?_; first | (refine (zb_t ?_).symm; (try simp only [← Int32.not_le] at *); first | exact c | (simp_all; done)) | (refine (zb_f ?_).symm; (try simp only [← Int32.not_le] at *); first | exact c | (simp_all; done)) | (simp_all; done)))

theorem sX8_isRow {G : ZG} (d : Nat) {h : ZH} {i0 : Nat} (hi0 : i0 < zcnt 3)  : zC G (d + 1) mX8_isRow [zr 3 i0] h (fun r h' => r = some (zi (zb (h.1 3 i0 0 = 2))) ∧ h' = h) := by
  refine zC_of (by decide +kernel) (Nat.le_of_ble_eq_true rfl) (L := [zr 3 i0]) ⟨rfl, trivial⟩ ?_
  refine wX8_isRow_0 hi0 ?_
  repeat' (first | (refine ⟨?_, ?_⟩ <;> intro c) | fail)
  all_goals (refine ⟨?_, rfl⟩)
  all_goals (first | rfl | (refine congrArg (fun z => some (Sum.inl z)) ?_; first | (refine (zb_t ?_).symm; (try simp only [← Int32.not_le] at *); first | exact c | (simp_all; done)) | (refine (zb_f ?_).symm; (try simp only [← Int32.not_le] at *); first | exact c | (simp_all; done)) | (simp_all; done)))

theorem sX8_hasPlace {G : ZG} (d : Nat) {h : ZH} {i0 : Nat} {x1 : Int32} (hi0 : i0 < zcnt 3)  : zC G (d + 1) mX8_hasPlace [zr 3 i0, zi x1] h (fun r h' => r = some (zi (zb (0 ≤ x1 ∧ x1 < h.1 3 i0 4))) ∧ h' = h) := by
  refine zC_of (by decide +kernel) (Nat.le_of_ble_eq_true rfl) (L := [zr 3 i0, zi x1]) ⟨rfl, ⟨rfl, trivial⟩⟩ ?_
  refine wX8_hasPlace_0 hi0 ?_
  refine ⟨fun c => ⟨?_, rfl⟩, fun c => ⟨fun c2 => ⟨?_, rfl⟩, fun c2 => ⟨?_, rfl⟩⟩⟩
  · rw [zb_f (fun q => Int32.not_le.mpr c q.1)]
  · rw [zb_f (fun q => Int32.not_lt.mpr c2 q.2)]
  · rw [zb_t ⟨Int32.not_lt.mp c, Int32.not_le.mp c2⟩]

theorem sX8_hasSpan {G : ZG} (d : Nat) {h : ZH} {i0 : Nat} {x1 : Int32} {x2 : Int32} (hi0 : i0 < zcnt 3)  : zC G (d + 1) mX8_hasSpan [zr 3 i0, zi x1, zi x2] h (fun r h' => r = some (zi (zb ((0 ≤ x1 ∧ 0 ≤ x2) ∧ (x1 ≤ h.1 3 i0 4 ∧ x2 ≤ h.1 3 i0 4 - x1)))) ∧ h' = h) := by
  refine zC_of (by decide +kernel) (Nat.le_of_ble_eq_true rfl) (L := [zr 3 i0, zi x1, zi x2]) ⟨rfl, ⟨rfl, ⟨rfl, trivial⟩⟩⟩ ?_
  refine wX8_hasSpan_0 hi0 ?_
  refine ⟨fun c => ⟨?_, rfl⟩, fun c => ⟨fun c2 => ⟨?_, rfl⟩, fun c2 => ⟨fun c3 => ⟨?_, rfl⟩, fun c3 => ⟨fun c4 => ⟨?_, rfl⟩, fun c4 => ⟨?_, rfl⟩⟩⟩⟩⟩
  · rw [zb_f (fun q => Int32.not_le.mpr c q.1.1)]
  · rw [zb_f (fun q => Int32.not_le.mpr c2 q.1.2)]
  · rw [zb_f (fun q => Int32.not_le.mpr c3 q.2.1)]
  · rw [zb_f (fun q => Int32.not_le.mpr c4 q.2.2)]
  · rw [zb_t ⟨⟨Int32.not_lt.mp c, Int32.not_lt.mp c2⟩, Int32.not_lt.mp c3, Int32.not_lt.mp c4⟩]

theorem sX3_drawn {G : ZG} (d : Nat) {h : ZH} {x0 : Int32}   : zC G (d + 1) mX3_drawn [zi x0] h (fun r h' => r = some (zi (x0 * 1103515245 + 12345)) ∧ h' = h) := by
  refine zC_of (by decide +kernel) (Nat.le_of_ble_eq_true rfl) (L := [zi x0]) ⟨rfl, trivial⟩ ?_
  refine wX3_drawn_0  ?_
  exact ⟨rfl, rfl⟩

theorem sX3_placeOf {G : ZG} (d : Nat) {h : ZH} {x0 : Int32}   : zC G (d + 1) mX3_placeOf [zi x0] h (fun r h' => r = some (zi ((((x0 &&& 2147483647) / 65536) - ((x0 &&& 2147483647) / 65536) / 12 * 12))) ∧ h' = h) := by
  refine zC_of (by decide +kernel) (Nat.le_of_ble_eq_true rfl) (L := [zi x0]) ⟨rfl, trivial⟩ ?_
  refine wX3_placeOf_0  ?_
  exact ⟨rfl, rfl⟩

theorem sX12_costBy {G : ZG} (d : Nat) {h : ZH} {x0 : Int32} {x1 : Int32}   : zC G (d + 1) mX12_costBy [zi x0, zi x1] h (fun r h' => r = some (zi (costI x0 x1)) ∧ h' = h) := by
  refine zC_of (by decide +kernel) (Nat.le_of_ble_eq_true rfl) (L := [zi x0, zi x1]) ⟨rfl, ⟨rfl, trivial⟩⟩ ?_
  refine wX12_costBy_0  ?_
  unfold costI
  refine ⟨fun c1 => ⟨?_, rfl⟩, fun c1 => ⟨fun c2 => ⟨?_, rfl⟩, fun c2 => ⟨fun c3 => ⟨?_, rfl⟩, fun c3 => ⟨fun c4 => ⟨?_, rfl⟩, fun c4 => ⟨fun c5 => ⟨?_, rfl⟩, fun c5 => ⟨fun c6 => ⟨?_, rfl⟩, fun c6 => ⟨fun c7 => ⟨?_, rfl⟩, fun c7 => ⟨?_, rfl⟩⟩⟩⟩⟩⟩⟩⟩
  · rw [if_pos c1]
  · rw [if_neg c1, if_pos c2]
  · rw [if_neg c1, if_neg c2, if_pos c3]
  · rw [if_neg c1, if_neg c2, if_neg c3, if_pos c4]
  · rw [if_neg c1, if_neg c2, if_neg c3, if_neg c4, if_pos c5]
  · rw [if_neg c1, if_neg c2, if_neg c3, if_neg c4, if_neg c5, if_pos c6]
  · rw [if_neg c1, if_neg c2, if_neg c3, if_neg c4, if_neg c5, if_neg c6, if_pos c7]
  · rw [if_neg c1, if_neg c2, if_neg c3, if_neg c4, if_neg c5, if_neg c6, if_neg c7]

theorem sX12_thrown {G : ZG} (d : Nat) {h : ZH}    : zC G (d + 1) mX12_thrown [zr 5 0] h (fun r h' => r = some (zi (h.1 5 0 23)) ∧ h' = h) := by
  refine zC_of (by decide +kernel) (Nat.le_of_ble_eq_true rfl) (L := [zr 5 0]) ⟨rfl, trivial⟩ ?_
  refine wX12_thrown_0  ?_
  exact ⟨rfl, rfl⟩

theorem sX12_kind {G : ZG} (d : Nat) {h : ZH} {x1 : Int32}  (hp0 : vp_in x1 12) : zC G (d + 1) mX12_kind [zr 5 0, zi x1] h (fun r h' => r = some (zi (kindI h x1)) ∧ h' = h) := by
  refine zC_of (by decide +kernel) (Nat.le_of_ble_eq_true rfl) (L := [zr 5 0, zi x1]) ⟨rfl, ⟨rfl, trivial⟩⟩ ?_
  refine wX12_kind_0  ?_
  exact ⟨vp_s2 hp0, rfl, rfl⟩

theorem sX12_figure {G : ZG} (d : Nat) {h : ZH} {x1 : Int32}  (hp0 : vp_in x1 12) : zC G (d + 1) mX12_figure [zr 5 0, zi x1] h (fun r h' => r = some (zi (figI h x1)) ∧ h' = h) := by
  refine zC_of (by decide +kernel) (Nat.le_of_ble_eq_true rfl) (L := [zr 5 0, zi x1]) ⟨rfl, ⟨rfl, trivial⟩⟩ ?_
  refine wX12_figure_0  ?_
  exact ⟨vp_s3 hp0, rfl, rfl⟩

theorem sX4_noteAt {G : ZG} (d : Nat) {h : ZH} {i0 : Nat} {x1 : Int32} (hi0 : i0 < zcnt 2) (hp0 : vp_in x1 12) : zC G (d + 1) mX4_noteAt [zr 2 i0, zi x1] h (fun r h' => r = some (zi (noteI (h.1 12 i0 x1.toNatClampNeg) (h.1 15 i0 x1.toNatClampNeg))) ∧ h' = h) := by
  refine zC_of (by decide +kernel) (Nat.le_of_ble_eq_true rfl) (L := [zr 2 i0, zi x1]) ⟨rfl, ⟨rfl, trivial⟩⟩ ?_
  refine wX4_noteAt_0 hi0 ?_
  exact ⟨hp0, hp0, rfl, rfl⟩

theorem sX10_weight {G : ZG} (d : Nat) {h : ZH} {i0 : Nat} {x1 : Int32} (hi0 : i0 < zcnt 4)  : zC G (d + 1) mX10_weight [zr 4 i0, zi x1] h (fun r h' => r = some (zi (2 + x1)) ∧ h' = h) := by
  refine zC_of (by decide +kernel) (Nat.le_of_ble_eq_true rfl) (L := [zr 4 i0, zi x1]) ⟨rfl, ⟨rfl, trivial⟩⟩ ?_
  refine wX10_weight_0 hi0 ?_
  exact ⟨rfl, rfl⟩

theorem sX10_bears {G : ZG} (d : Nat) {h : ZH} {i0 : Nat} {x1 : Int32} (hi0 : i0 < zcnt 4)  : zC G (d + 1) mX10_bears [zr 4 i0, zi x1] h (fun r h' => r = some (zi (20)) ∧ h' = h) := by
  refine zC_of (by decide +kernel) (Nat.le_of_ble_eq_true rfl) (L := [zr 4 i0, zi x1]) ⟨rfl, ⟨rfl, trivial⟩⟩ ?_
  refine wX10_bears_0 hi0 ?_
  exact ⟨rfl, rfl⟩

theorem sX10_price {G : ZG} (d : Nat) {h : ZH} {i0 : Nat} {x1 : Int32} (hi0 : i0 < zcnt 4)  : zC G (d + 1) mX10_price [zr 4 i0, zi x1] h (fun r h' => r = some (zi (2)) ∧ h' = h) := by
  refine zC_of (by decide +kernel) (Nat.le_of_ble_eq_true rfl) (L := [zr 4 i0, zi x1]) ⟨rfl, ⟨rfl, trivial⟩⟩ ?_
  refine wX10_price_0 hi0 ?_
  exact ⟨rfl, rfl⟩

theorem sX10_manner {G : ZG} (d : Nat) {h : ZH} {i0 : Nat} (hi0 : i0 < zcnt 4)  : zC G (d + 1) mX10_manner [zr 4 i0] h (fun r h' => r = some (zi (0)) ∧ h' = h) := by
  refine zC_of (by decide +kernel) (Nat.le_of_ble_eq_true rfl) (L := [zr 4 i0]) ⟨rfl, trivial⟩ ?_
  refine wX10_manner_0 hi0 ?_
  exact ⟨rfl, rfl⟩

theorem sX7_weight {G : ZG} (d : Nat) {h : ZH} {i0 : Nat} {x1 : Int32} (hi0 : i0 < zcnt 4)  : zC G (d + 1) mX7_weight [zr 4 i0, zi x1] h (fun r h' => r = some (zi (1)) ∧ h' = h) := by
  refine zC_of (by decide +kernel) (Nat.le_of_ble_eq_true rfl) (L := [zr 4 i0, zi x1]) ⟨rfl, ⟨rfl, trivial⟩⟩ ?_
  refine wX7_weight_0 hi0 ?_
  exact ⟨rfl, rfl⟩

theorem sX7_bears {G : ZG} (d : Nat) {h : ZH} {i0 : Nat} {x1 : Int32} (hi0 : i0 < zcnt 4)  : zC G (d + 1) mX7_bears [zr 4 i0, zi x1] h (fun r h' => r = some (zi (3)) ∧ h' = h) := by
  refine zC_of (by decide +kernel) (Nat.le_of_ble_eq_true rfl) (L := [zr 4 i0, zi x1]) ⟨rfl, ⟨rfl, trivial⟩⟩ ?_
  refine wX7_bears_0 hi0 ?_
  exact ⟨rfl, rfl⟩

theorem sX7_manner {G : ZG} (d : Nat) {h : ZH} {i0 : Nat} (hi0 : i0 < zcnt 4)  : zC G (d + 1) mX7_manner [zr 4 i0] h (fun r h' => r = some (zi (3)) ∧ h' = h) := by
  refine zC_of (by decide +kernel) (Nat.le_of_ble_eq_true rfl) (L := [zr 4 i0]) ⟨rfl, trivial⟩ ?_
  refine wX7_manner_0 hi0 ?_
  exact ⟨rfl, rfl⟩

theorem sX6_weight {G : ZG} (d : Nat) {h : ZH} {i0 : Nat} {x1 : Int32} (hi0 : i0 < zcnt 4)  : zC G (d + 1) mX6_weight [zr 4 i0, zi x1] h (fun r h' => r = some (zi (0)) ∧ h' = h) := by
  refine zC_of (by decide +kernel) (Nat.le_of_ble_eq_true rfl) (L := [zr 4 i0, zi x1]) ⟨rfl, ⟨rfl, trivial⟩⟩ ?_
  refine wX6_weight_0 hi0 ?_
  exact ⟨rfl, rfl⟩

theorem sX6_bears {G : ZG} (d : Nat) {h : ZH} {i0 : Nat} {x1 : Int32} (hi0 : i0 < zcnt 4)  : zC G (d + 1) mX6_bears [zr 4 i0, zi x1] h (fun r h' => r = some (zi (0)) ∧ h' = h) := by
  refine zC_of (by decide +kernel) (Nat.le_of_ble_eq_true rfl) (L := [zr 4 i0, zi x1]) ⟨rfl, ⟨rfl, trivial⟩⟩ ?_
  refine wX6_bears_0 hi0 ?_
  exact ⟨rfl, rfl⟩

theorem sX0_manner {G : ZG} (d : Nat) {h : ZH} {i0 : Nat} (hi0 : i0 < zcnt 4)  : zC G (d + 1) mX0_manner [zr 4 i0] h (fun r h' => r = some (zi (1)) ∧ h' = h) := by
  refine zC_of (by decide +kernel) (Nat.le_of_ble_eq_true rfl) (L := [zr 4 i0]) ⟨rfl, trivial⟩ ?_
  refine wX0_manner_0 hi0 ?_
  exact ⟨rfl, rfl⟩

theorem sX1_manner {G : ZG} (d : Nat) {h : ZH} {i0 : Nat} (hi0 : i0 < zcnt 4)  : zC G (d + 1) mX1_manner [zr 4 i0] h (fun r h' => r = some (zi (2)) ∧ h' = h) := by
  refine zC_of (by decide +kernel) (Nat.le_of_ble_eq_true rfl) (L := [zr 4 i0]) ⟨rfl, trivial⟩ ?_
  refine wX1_manner_0 hi0 ?_
  exact ⟨rfl, rfl⟩
