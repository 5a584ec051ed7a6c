/-! ===== Integer.bitCount ===== -/
abbrev ushI (x n : Int32) : Int32 := (x.toUInt32 >>> (n.toUInt32 &&& Int32.toUInt32 31)).toInt32
def bcI (x0 : Int32) : Int32 :=
  let y1 := x0 - (ushI x0 1 &&& 1431655765)
  let y2 := (y1 &&& 858993459) + (ushI y1 2 &&& 858993459)
  let y3 := (y2 + ushI y2 4) &&& 252645135
  let y4 := y3 + ushI y3 8
  let y5 := y4 + ushI y4 16
  y5 &&& 63
theorem sJ6_bitCount_0f7a4 {G : ZG} (d : Nat) {h : ZH} {x0 : Int32} : zC G (d + 1) mJ6_bitCount_0f7a4 [zi x0] h (fun r h' => r = some (zi (bcI x0)) ∧ h' = h) := by
  refine zC_of (by decide +kernel) (Nat.le_of_ble_eq_true rfl) (L := [zi x0]) ⟨rfl, trivial⟩ ?_
  refine wJ6_bitCount_0f7a4_0 ?_
  intro y1 e1 y2 e2 y3 e3 y4 e4 y5 e5
  subst e1; subst e2; subst e3; subst e4; subst e5
  exact ⟨rfl, rfl⟩
def zpcF (S : Nat) : Nat := (List.range 12).foldl (fun n p => n + if S.testBit p = true then 1 else 0) 0
theorem zpcF_eq (S : Nat) : zpcF S = zpc S := rfl
theorem bcI_chk : ∀ a, a < 64 → ∀ b, b < 64 → bcI (nI (64 * a + b)) = nI (zpcF (64 * a + b)) := by decide +kernel
theorem bcI_nI {S : Nat} (hS : S < 4096) : bcI (nI S) = nI (zpc S) := by
  have := bcI_chk (S / 64) (by omega) (S % 64) (by omega)
  rw [Nat.div_add_mod S 64] at this
  rw [this, zpcF_eq]
