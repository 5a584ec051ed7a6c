/-! ===== the choices in their order: by how many places, then by number ===== -/
def keyN (T : Nat) : Nat := zpc T * 4096 + T
def keyF (T : Nat) : Nat := zpcF T * 4096 + T
def nextN (T : Nat) : Nat := (nextI (nI T)).toNatClampNeg
def chkN : Nat → Nat → Nat → Bool
  | 0, cur, tgt => Nat.beq cur tgt
  | f + 1, cur, tgt => match nextN cur with
    | 0 => false
    | m + 1 => (decide (nextI (nI cur) = nI (m + 1)) && (Nat.blt (m + 1) 4096 && Nat.blt (keyF cur) (keyF (m + 1)))) && chkN f (m + 1) tgt
theorem chk_1 : chkN 793 0 3840 = true := by decide +kernel
theorem chk_2 : chkN 1 3840 31 = true := by decide +kernel
theorem chk_3 : chkN 3301 31 4095 = true := by decide +kernel
