/-! ===== Long.bitCount ===== -/
def mB (m : Nat) : Nat → Nat
  | 0 => 0
  | k + 1 => 256 * mB m k + m
theorem and_byte {a b m n : Nat} (hb : b < 256) (hn : n < 256) : (256 * a + b) &&& (256 * m + n) = 256 * (a &&& m) + (b &&& n) := by
  have h1 : ((256 * a + b) &&& (256 * m + n)) / 2 ^ 8 = (a &&& m) := by
    rw [Nat.and_div_two_pow]
    congr 1 <;> omega
  have h2 : ((256 * a + b) &&& (256 * m + n)) % 2 ^ 8 = (b &&& n) := by
    rw [Nat.and_mod_two_pow]
    congr 1 <;> omega
  have h3 := Nat.div_add_mod ((256 * a + b) &&& (256 * m + n)) (2 ^ 8)
  rw [h1, h2] at h3
  omega
def f1 (k x : Nat) : Nat := x - (x / 2 &&& mB 85 k)
def f2 (k y : Nat) : Nat := (y &&& mB 51 k) + (y / 4 &&& mB 51 k)
def f3 (k z : Nat) : Nat := (z + z / 16) &&& mB 15 k
def h1b (b : Nat) : Nat := b - (b / 2 &&& 85)
def h2b (b : Nat) : Nat := (h1b b &&& 51) + (h1b b / 4 &&& 51)
def pcb (b : Nat) : Nat := fb_ct (fun p => b.testBit p) 8
theorem c_f1 : ∀ r, r < 2 → ∀ b, b < 256 → (128 * r + b / 2) &&& 85 = (b / 2 &&& 85) := by decide +kernel
theorem c_f2 : ∀ r, r < 4 → ∀ b, b < 256 → (64 * r + b / 4) &&& 51 = (b / 4 &&& 51) := by decide +kernel
theorem c_f3 : ∀ r, r < 5 → ∀ b, b < 256 → (h2b b + h2b b / 16 + 16 * r) &&& 15 = pcb b ∧ h2b b + h2b b / 16 + 16 * r < 256 := by decide +kernel
theorem c_nb : ∀ b, b < 256 → h2b b % 16 ≤ 4 := by decide +kernel
theorem f1_s {k a b : Nat} (hb : b < 256) : f1 (k + 1) (256 * a + b) = 256 * f1 k a + h1b b := by
  unfold f1 h1b
  rw [mB, show (256 * a + b) / 2 = 256 * (a / 2) + (128 * (a % 2) + b / 2) by omega, and_byte (by omega) (by decide), c_f1 (a % 2) (by omega) b hb]
  have e1 : (a / 2 &&& mB 85 k) ≤ a / 2 := Nat.and_le_left
  have e2 : (b / 2 &&& 85) ≤ b / 2 := Nat.and_le_left
  omega
theorem f2_s {k a b : Nat} (hb : b < 256) : f2 (k + 1) (256 * a + b) = 256 * f2 k a + ((b &&& 51) + (b / 4 &&& 51)) := by
  unfold f2
  rw [mB, show (256 * a + b) / 4 = 256 * (a / 4) + (64 * (a % 4) + b / 4) by omega, and_byte hb (by decide), and_byte (by omega) (by decide), c_f2 (a % 4) (by omega) b hb]
  omega
theorem f12_s {k a b : Nat} (hb : b < 256) : f2 (k + 1) (f1 (k + 1) (256 * a + b)) = 256 * f2 k (f1 k a) + h2b b := by
  rw [f1_s hb, f2_s (show h1b b < 256 by unfold h1b; omega)]
  rfl
theorem f12_0 (a : Nat) : f2 0 a = 0 := by unfold f2; simp [mB]
theorem f12_n : ∀ k a, f2 k (f1 k a) % 16 ≤ 4 := by
  intro k a
  cases k with
  | zero => rw [f12_0]; decide
  | succ k =>
    have := f12_s (k := k) (a := a / 256) (b := a % 256) (by omega)
    rw [Nat.div_add_mod a 256] at this
    rw [this]
    have := c_nb (a % 256) (by omega)
    omega
def pB (k x : Nat) : Nat := f3 k (f2 k (f1 k x))
theorem pB_s (k x : Nat) : pB (k + 1) x = 256 * pB k (x / 256) + pcb (x % 256) := by
  have e := f12_s (k := k) (a := x / 256) (b := x % 256) (by omega)
  rw [Nat.div_add_mod x 256] at e
  unfold pB
  rw [e]
  generalize hz : f2 k (f1 k (x / 256)) = z
  have nb : z % 16 ≤ 4 := by rw [← hz]; exact f12_n k _
  have c := c_f3 (z % 16) (by omega) (x % 256) (by omega)
  unfold f3
  rw [mB, show 256 * z + h2b (x % 256) + (256 * z + h2b (x % 256)) / 16 = 256 * (z + z / 16) + (h2b (x % 256) + h2b (x % 256) / 16 + 16 * (z % 16)) by omega, and_byte c.2 (by decide), c.1]
theorem pB_0 (x : Nat) : pB 0 x = 0 := by unfold pB f3; simp [mB]
theorem pcb_le (b : Nat) : pcb b ≤ 8 := fb_ct_le _ 8
def sumB : Nat → Nat → Nat
  | 0, _ => 0
  | k + 1, x => pcb (x % 256) + sumB k (x / 256)
theorem sumB_ct : ∀ k x, sumB k x = fb_ct (fun p => x.testBit p) (8 * k) := by
  intro k
  induction k with
  | zero => intro x; rfl
  | succ k ih =>
    intro x
    rw [sumB, ih, show 8 * (k + 1) = 8 + 8 * k by omega, fb_ct_split]
    congr 1
    · unfold pcb
      refine fb_ct_cong fun p hp => ?_
      rw [show 256 = 2 ^ 8 by decide, Nat.testBit_mod_two_pow]
      simp [hp]
    · refine fb_ct_cong fun p _ => ?_
      rw [show 256 = 2 ^ 8 by decide, Nat.testBit_div_two_pow, Nat.add_comm]
theorem fold128 (x : Nat) : (let y3 := pB 8 x; let y4 := y3 + y3 / 256; let y5 := y4 + y4 / 65536; let y6 := y5 + y5 / 4294967296; y6 % 128) = sumB 8 x := by
  have p0 := pB_s 7 x
  have p1 := pB_s 6 (x / 256)
  have p2 := pB_s 5 (x / 256 / 256)
  have p3 := pB_s 4 (x / 256 / 256 / 256)
  have p4 := pB_s 3 (x / 256 / 256 / 256 / 256)
  have p5 := pB_s 2 (x / 256 / 256 / 256 / 256 / 256)
  have p6 := pB_s 1 (x / 256 / 256 / 256 / 256 / 256 / 256)
  have p7 := pB_s 0 (x / 256 / 256 / 256 / 256 / 256 / 256 / 256)
  rw [pB_0] at p7
  have l0 := pcb_le (x % 256)
  have l1 := pcb_le (x / 256 % 256)
  have l2 := pcb_le (x / 256 / 256 % 256)
  have l3 := pcb_le (x / 256 / 256 / 256 % 256)
  have l4 := pcb_le (x / 256 / 256 / 256 / 256 % 256)
  have l5 := pcb_le (x / 256 / 256 / 256 / 256 / 256 % 256)
  have l6 := pcb_le (x / 256 / 256 / 256 / 256 / 256 / 256 % 256)
  have l7 := pcb_le (x / 256 / 256 / 256 / 256 / 256 / 256 / 256 % 256)
  have s : sumB 8 x = pcb (x % 256) + (pcb (x / 256 % 256) + (pcb (x / 256 / 256 % 256) + (pcb (x / 256 / 256 / 256 % 256) + (pcb (x / 256 / 256 / 256 / 256 % 256) + (pcb (x / 256 / 256 / 256 / 256 / 256 % 256) + (pcb (x / 256 / 256 / 256 / 256 / 256 / 256 % 256) + (pcb (x / 256 / 256 / 256 / 256 / 256 / 256 / 256 % 256) + 0))))))) := rfl
  rw [s]
  show (_ : Nat) % 128 = _
  generalize pcb (x % 256) = c0 at *
  generalize pcb (x / 256 % 256) = c1 at *
  generalize pcb (x / 256 / 256 % 256) = c2 at *
  generalize pcb (x / 256 / 256 / 256 % 256) = c3 at *
  generalize pcb (x / 256 / 256 / 256 / 256 % 256) = c4 at *
  generalize pcb (x / 256 / 256 / 256 / 256 / 256 % 256) = c5 at *
  generalize pcb (x / 256 / 256 / 256 / 256 / 256 / 256 % 256) = c6 at *
  generalize pcb (x / 256 / 256 / 256 / 256 / 256 / 256 / 256 % 256) = c7 at *
  have e : pB 8 x = c0 + 256 * c1 + 65536 * c2 + 16777216 * c3 + 4294967296 * c4 + 1099511627776 * c5 + 281474976710656 * c6 + 72057594037927936 * c7 := by
    rw [p0, p1, p2, p3, p4, p5, p6, p7]
    omega
  rw [e]
  clear p0 p1 p2 p3 p4 p5 p6 p7 e s
  have e4 : (c0 + 256 * c1 + 65536 * c2 + 16777216 * c3 + 4294967296 * c4 + 1099511627776 * c5 + 281474976710656 * c6 + 72057594037927936 * c7) / 256 = c1 + 256 * c2 + 65536 * c3 + 16777216 * c4 + 4294967296 * c5 + 1099511627776 * c6 + 281474976710656 * c7 := by omega
  rw [e4]
  have e5 : (c0 + 256 * c1 + 65536 * c2 + 16777216 * c3 + 4294967296 * c4 + 1099511627776 * c5 + 281474976710656 * c6 + 72057594037927936 * c7 + (c1 + 256 * c2 + 65536 * c3 + 16777216 * c4 + 4294967296 * c5 + 1099511627776 * c6 + 281474976710656 * c7)) / 65536 = (c2 + c3) + 256 * (c3 + c4) + 65536 * (c4 + c5) + 16777216 * (c5 + c6) + 4294967296 * (c6 + c7) + 1099511627776 * c7 := by omega
  rw [e5]
  have e6 : ((c0 + 256 * c1 + 65536 * c2 + 16777216 * c3 + 4294967296 * c4 + 1099511627776 * c5 + 281474976710656 * c6 + 72057594037927936 * c7 + (c1 + 256 * c2 + 65536 * c3 + 16777216 * c4 + 4294967296 * c5 + 1099511627776 * c6 + 281474976710656 * c7)) + ((c2 + c3) + 256 * (c3 + c4) + 65536 * (c4 + c5) + 16777216 * (c5 + c6) + 4294967296 * (c6 + c7) + 1099511627776 * c7)) / 4294967296 = (c4 + c5 + c6 + c7) + 256 * (c5 + c6 + c7) + 65536 * (c6 + c7) + 16777216 * c7 := by omega
  rw [e6]
  omega
abbrev ushL (x : Int64) (n : Int32) : Int64 := (x.toUInt64 >>> (n.toInt64.toUInt64 &&& Int64.toUInt64 63)).toInt64
def bcL (x0 : Int64) : Int32 :=
  let y1 := x0 - (ushL x0 1 &&& 6148914691236517205)
  let y2 := (y1 &&& 3689348814741910323) + (ushL y1 2 &&& 3689348814741910323)
  let y3 := (y2 + ushL y2 4) &&& 1085102592571150095
  let y4 := y3 + ushL y3 8
  let y5 := y4 + ushL y4 16
  let y6 := y5 + ushL y5 32
  y6.toInt32 &&& 127
theorem sJ13_bitCount_95d88 {G : ZG} (d : Nat) {h : ZH} {x0 : Int64} : zC G (d + 1) mJ13_bitCount_95d88 [zl x0] h (fun r h' => r = some (zi (bcL x0)) ∧ h' = h) := by
  refine zC_of (by decide +kernel) (Nat.le_of_ble_eq_true rfl) (L := [zl x0, zu]) ⟨rfl, trivial⟩ ?_
  refine wJ13_bitCount_95d88_0 ?_
  intro y1 e1 y2 e2 y3 e3 y4 e4 y5 e5 y6 e6
  subst e1; subst e2; subst e3; subst e4; subst e5; subst e6
  exact ⟨rfl, rfl⟩
theorem ushL_n {n k : Nat} (hn : n < 2 ^ 64) (hk : k < 64) : ushL (lN n) (nI k) = lN (n / 2 ^ k) := wb_shr hn hk
theorem bcL_n {m : Nat} (hm : m < 2 ^ 60) : bcL (lN m) = nI (fb_ct (fun p => m.testBit p) 64) := by
  have m5 : (6148914691236517205 : Int64) = lN (mB 85 8) := by decide +kernel
  have m3 : (3689348814741910323 : Int64) = lN (mB 51 8) := by decide +kernel
  have mf : (1085102592571150095 : Int64) = lN (mB 15 8) := by decide +kernel
  unfold bcL
  dsimp only
  rw [m5, m3, mf]
  have a1 : (m / 2 &&& mB 85 8) ≤ m / 2 := Nat.and_le_left
  have u1 : ushL (lN m) 1 = lN (m / 2) := ushL_n (k := 1) (by omega) (by decide)
  rw [u1, fb_andL, lN_sub (by omega)]
  have e1 : m - (m / 2 &&& mB 85 8) = f1 8 m := rfl
  rw [e1]
  have b1 : f1 8 m ≤ m := Nat.sub_le _ _
  generalize hy1 : f1 8 m = y1 at *
  have u2 : ushL (lN y1) 2 = lN (y1 / 4) := ushL_n (k := 2) (by omega) (by decide)
  rw [u2, fb_andL, fb_andL, lN_add]
  have e2 : (y1 &&& mB 51 8) + (y1 / 4 &&& mB 51 8) = f2 8 y1 := rfl
  have b2 : f2 8 y1 ≤ y1 + y1 / 4 := Nat.add_le_add Nat.and_le_left Nat.and_le_left
  rw [e2]
  generalize hy2 : f2 8 y1 = y2 at *
  have u3 : ushL (lN y2) 4 = lN (y2 / 16) := ushL_n (k := 4) (by omega) (by decide)
  rw [u3, lN_add, fb_andL]
  have e3 : (y2 + y2 / 16) &&& mB 15 8 = f3 8 y2 := rfl
  have b3 : f3 8 y2 ≤ y2 + y2 / 16 := Nat.and_le_left
  rw [e3]
  have e4 : f3 8 y2 = pB 8 m := by rw [← hy2, ← hy1]; rfl
  have fo := fold128 m
  rw [← e4] at fo
  generalize f3 8 y2 = y3 at *
  have u4 : ushL (lN y3) 8 = lN (y3 / 256) := ushL_n (k := 8) (by omega) (by decide)
  rw [u4, lN_add]
  have u5 : ushL (lN (y3 + y3 / 256)) 16 = lN ((y3 + y3 / 256) / 65536) := ushL_n (k := 16) (by omega) (by decide)
  rw [u5, lN_add]
  have u6 : ushL (lN (y3 + y3 / 256 + (y3 + y3 / 256) / 65536)) 32 = lN ((y3 + y3 / 256 + (y3 + y3 / 256) / 65536) / 4294967296) := ushL_n (k := 32) (by omega) (by decide)
  rw [u6, lN_add, lN_i, show (127 : Int32) = nI (2 ^ 7 - 1) by decide, fa_mask]
  rw [sumB_ct] at fo
  exact congrArg nI fo
