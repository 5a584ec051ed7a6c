/-! ===== Math.max, Math.min ===== -/
def zMX (own : String) (index : Nat) : Prop := Cond.methodLink own index Lib.Math.max.name ∈ zall ∧ Cond.static Lib.Math.max.name ∈ zall ∧ Cond.initialized "java/lang/Math" ∈ zall ∧ Cond.code Lib.Math.max.name Lib.Math.max.code 2 (some .int) ∈ zall
def zMN (own : String) (index : Nat) : Prop := Cond.methodLink own index Lib.Math.min.name ∈ zall ∧ Cond.static Lib.Math.min.name ∈ zall ∧ Cond.initialized "java/lang/Math" ∈ zall ∧ Cond.code Lib.Math.min.name Lib.Math.min.code 2 (some .int) ∈ zall
def zmx (x y : Int32) : Int32 := if x < y then y else x
def zmn (x y : Int32) : Int32 := if y < x then y else x
theorem zt_mmax {G : ZG} {d : Nat} {M : ZM} {pc pc' : Nat} {L S : List ZV} {h : ZH} {Q : Option ZV → ZH → Prop} {index : Nat} {x y : Int32} (hd : zD M.2.1 pc pc' (.invokestatic index) 3) (ha : zMX M.1.cls index) (hS4 : S.length ≤ 2) (kk : zT G (d + 1) M pc' L (zi (zmx x y) :: S) h Q) : zT G (d + 1) M pc L (zi y :: zi x :: S) h Q := by
  obtain ⟨hd, rfl⟩ := hd
  intro p e s m args below meth c H locs ls hX hS hW hL
  obtain ⟨hx, hb, hml, hr, hts, hown, hlk, hK, hSt⟩ := id hX
  obtain ⟨w1, w2, w3, w4⟩ := ha
  have h6 := zc_sum G S (by omega)
  exact va_mmax hx hb (hml.trans hL.1.symm) hown (hts _ w1) (hts _ w2) (hts _ w3) (hts _ w4) (by show 1 ≤ d + 1; omega) (by show _ ≤ 48 * (d + 1); omega) (Nat.le_refl _) (Nat.le_refl _) hd (kk p e s m args below meth c H locs ls hX hS hW hL)
theorem zt_mmin {G : ZG} {d : Nat} {M : ZM} {pc pc' : Nat} {L S : List ZV} {h : ZH} {Q : Option ZV → ZH → Prop} {index : Nat} {x y : Int32} (hd : zD M.2.1 pc pc' (.invokestatic index) 3) (ha : zMN M.1.cls index) (hS4 : S.length ≤ 2) (kk : zT G (d + 1) M pc' L (zi (zmn x y) :: S) h Q) : zT G (d + 1) M pc L (zi y :: zi x :: S) h Q := by
  obtain ⟨hd, rfl⟩ := hd
  intro p e s m args below meth c H locs ls hX hS hW hL
  obtain ⟨hx, hb, hml, hr, hts, hown, hlk, hK, hSt⟩ := id hX
  obtain ⟨w1, w2, w3, w4⟩ := ha
  have h6 := zc_sum G S (by omega)
  exact va_mmin hx hb (hml.trans hL.1.symm) hown (hts _ w1) (hts _ w2) (hts _ w3) (hts _ w4) (by show 1 ≤ d + 1; omega) (by show _ ≤ 48 * (d + 1); omega) (Nat.le_refl _) (Nat.le_refl _) hd (kk p e s m args below meth c H locs ls hX hS hW hL)
theorem qRX11_213 : zMN RX11 213 := ⟨wmk 636 (by decide +kernel) rfl, wmk 637 (by decide +kernel) rfl, wmk 17 (by decide +kernel) rfl, wmk 638 (by decide +kernel) rfl⟩
theorem qRX11_219 : zMX RX11 219 := ⟨wmk 639 (by decide +kernel) rfl, wmk 531 (by decide +kernel) rfl, wmk 17 (by decide +kernel) rfl, wmk 532 (by decide +kernel) rfl⟩
theorem qRX3_83 : zMX RX3 83 := ⟨wmk 530 (by decide +kernel) rfl, wmk 531 (by decide +kernel) rfl, wmk 17 (by decide +kernel) rfl, wmk 532 (by decide +kernel) rfl⟩
