/-! ===== the rules of zT, one an instruction ===== -/
abbrev zD (cc : ByteArray) (pc pc' : Nat) (i : Instr) (n : Nat) : Prop := decode cc pc = .ok (i, n) ∧ pc' = pc + n
abbrev zB (cc : ByteArray) (pc pc' tgt : Nat) (i : Instr) (off : Int) : Prop := decode cc pc = .ok (i, 3) ∧ pc' = pc + 3 ∧ (pc : Int) + off = (tgt : Int)
theorem zt_iadd {G : ZG} {d : Nat} {M : ZM} {pc pc' : Nat} {L S : List ZV} {h : ZH} {Q : Option ZV → ZH → Prop} {x y : Int32} (hd : zD M.2.1 pc pc' .iadd 1) (k : zT G d M pc' L (zi (x + y) :: S) h Q) : zT G d M pc L (zi y :: zi x :: S) h Q := by
  obtain ⟨hd, rfl⟩ := hd
  intro p e s m args below meth c H locs ls hX hS hW hL
  obtain ⟨hx, hb, hml, hr, hts, hown, hlk, hK, hSt⟩ := id hX
  exact lv_iadd hx hb hd (k p e s m args below meth c H locs ls hX hS hW hL)
theorem zt_isub {G : ZG} {d : Nat} {M : ZM} {pc pc' : Nat} {L S : List ZV} {h : ZH} {Q : Option ZV → ZH → Prop} {x y : Int32} (hd : zD M.2.1 pc pc' .isub 1) (k : zT G d M pc' L (zi (x - y) :: S) h Q) : zT G d M pc L (zi y :: zi x :: S) h Q := by
  obtain ⟨hd, rfl⟩ := hd
  intro p e s m args below meth c H locs ls hX hS hW hL
  obtain ⟨hx, hb, hml, hr, hts, hown, hlk, hK, hSt⟩ := id hX
  exact lv_isub hx hb hd (k p e s m args below meth c H locs ls hX hS hW hL)
theorem zt_imul {G : ZG} {d : Nat} {M : ZM} {pc pc' : Nat} {L S : List ZV} {h : ZH} {Q : Option ZV → ZH → Prop} {x y : Int32} (hd : zD M.2.1 pc pc' .imul 1) (k : zT G d M pc' L (zi (x * y) :: S) h Q) : zT G d M pc L (zi y :: zi x :: S) h Q := by
  obtain ⟨hd, rfl⟩ := hd
  intro p e s m args below meth c H locs ls hX hS hW hL
  obtain ⟨hx, hb, hml, hr, hts, hown, hlk, hK, hSt⟩ := id hX
  exact lv_imul hx hb hd (k p e s m args below meth c H locs ls hX hS hW hL)
theorem zt_iand {G : ZG} {d : Nat} {M : ZM} {pc pc' : Nat} {L S : List ZV} {h : ZH} {Q : Option ZV → ZH → Prop} {x y : Int32} (hd : zD M.2.1 pc pc' .iand 1) (k : zT G d M pc' L (zi (x &&& y) :: S) h Q) : zT G d M pc L (zi y :: zi x :: S) h Q := by
  obtain ⟨hd, rfl⟩ := hd
  intro p e s m args below meth c H locs ls hX hS hW hL
  obtain ⟨hx, hb, hml, hr, hts, hown, hlk, hK, hSt⟩ := id hX
  exact lv_iand hx hb hd (k p e s m args below meth c H locs ls hX hS hW hL)
theorem zt_ior {G : ZG} {d : Nat} {M : ZM} {pc pc' : Nat} {L S : List ZV} {h : ZH} {Q : Option ZV → ZH → Prop} {x y : Int32} (hd : zD M.2.1 pc pc' .ior 1) (k : zT G d M pc' L (zi (x ||| y) :: S) h Q) : zT G d M pc L (zi y :: zi x :: S) h Q := by
  obtain ⟨hd, rfl⟩ := hd
  intro p e s m args below meth c H locs ls hX hS hW hL
  obtain ⟨hx, hb, hml, hr, hts, hown, hlk, hK, hSt⟩ := id hX
  exact lv_ior hx hb hd (k p e s m args below meth c H locs ls hX hS hW hL)
theorem zt_ixor {G : ZG} {d : Nat} {M : ZM} {pc pc' : Nat} {L S : List ZV} {h : ZH} {Q : Option ZV → ZH → Prop} {x y : Int32} (hd : zD M.2.1 pc pc' .ixor 1) (k : zT G d M pc' L (zi (x ^^^ y) :: S) h Q) : zT G d M pc L (zi y :: zi x :: S) h Q := by
  obtain ⟨hd, rfl⟩ := hd
  intro p e s m args below meth c H locs ls hX hS hW hL
  obtain ⟨hx, hb, hml, hr, hts, hown, hlk, hK, hSt⟩ := id hX
  exact lv_ixor hx hb hd (k p e s m args below meth c H locs ls hX hS hW hL)
theorem zt_ishl {G : ZG} {d : Nat} {M : ZM} {pc pc' : Nat} {L S : List ZV} {h : ZH} {Q : Option ZV → ZH → Prop} {x y : Int32} (hd : zD M.2.1 pc pc' .ishl 1) (k : zT G d M pc' L (zi (x <<< (y &&& 31)) :: S) h Q) : zT G d M pc L (zi y :: zi x :: S) h Q := by
  obtain ⟨hd, rfl⟩ := hd
  intro p e s m args below meth c H locs ls hX hS hW hL
  obtain ⟨hx, hb, hml, hr, hts, hown, hlk, hK, hSt⟩ := id hX
  exact lv_ishl hx hb hd (k p e s m args below meth c H locs ls hX hS hW hL)
theorem zt_ishr {G : ZG} {d : Nat} {M : ZM} {pc pc' : Nat} {L S : List ZV} {h : ZH} {Q : Option ZV → ZH → Prop} {x y : Int32} (hd : zD M.2.1 pc pc' .ishr 1) (k : zT G d M pc' L (zi (x >>> (y &&& 31)) :: S) h Q) : zT G d M pc L (zi y :: zi x :: S) h Q := by
  obtain ⟨hd, rfl⟩ := hd
  intro p e s m args below meth c H locs ls hX hS hW hL
  obtain ⟨hx, hb, hml, hr, hts, hown, hlk, hK, hSt⟩ := id hX
  exact lv_ishr hx hb hd (k p e s m args below meth c H locs ls hX hS hW hL)
theorem zt_iushr {G : ZG} {d : Nat} {M : ZM} {pc pc' : Nat} {L S : List ZV} {h : ZH} {Q : Option ZV → ZH → Prop} {x y : Int32} (hd : zD M.2.1 pc pc' .iushr 1) (k : zT G d M pc' L (zi ((x.toUInt32 >>> (y.toUInt32 &&& Int32.toUInt32 31)).toInt32) :: S) h Q) : zT G d M pc L (zi y :: zi x :: S) h Q := by
  obtain ⟨hd, rfl⟩ := hd
  intro p e s m args below meth c H locs ls hX hS hW hL
  obtain ⟨hx, hb, hml, hr, hts, hown, hlk, hK, hSt⟩ := id hX
  exact lv_iushr hx hb hd rfl (k p e s m args below meth c H locs ls hX hS hW hL)
theorem zt_idiv {G : ZG} {d : Nat} {M : ZM} {pc pc' : Nat} {L S : List ZV} {h : ZH} {Q : Option ZV → ZH → Prop} {x y : Int32} (hd : zD M.2.1 pc pc' .idiv 1) (hne : ¬ y = 0) (k : zT G d M pc' L (zi (x / y) :: S) h Q) : zT G d M pc L (zi y :: zi x :: S) h Q := by
  obtain ⟨hd, rfl⟩ := hd
  intro p e s m args below meth c H locs ls hX hS hW hL
  obtain ⟨hx, hb, hml, hr, hts, hown, hlk, hK, hSt⟩ := id hX
  exact lv_idiv hx hb hd hne (k p e s m args below meth c H locs ls hX hS hW hL)
theorem zt_irem {G : ZG} {d : Nat} {M : ZM} {pc pc' : Nat} {L S : List ZV} {h : ZH} {Q : Option ZV → ZH → Prop} {x y : Int32} (hd : zD M.2.1 pc pc' .irem 1) (hne : ¬ y = 0) (k : zT G d M pc' L (zi (x - x / y * y) :: S) h Q) : zT G d M pc L (zi y :: zi x :: S) h Q := by
  obtain ⟨hd, rfl⟩ := hd
  intro p e s m args below meth c H locs ls hX hS hW hL
  obtain ⟨hx, hb, hml, hr, hts, hown, hlk, hK, hSt⟩ := id hX
  exact lv_irem hx hb hd hne (k p e s m args below meth c H locs ls hX hS hW hL)
theorem zt_ineg {G : ZG} {d : Nat} {M : ZM} {pc pc' : Nat} {L S : List ZV} {h : ZH} {Q : Option ZV → ZH → Prop} {x : Int32} (hd : zD M.2.1 pc pc' .ineg 1) (k : zT G d M pc' L (zi (-x) :: S) h Q) : zT G d M pc L (zi x :: S) h Q := by
  obtain ⟨hd, rfl⟩ := hd
  intro p e s m args below meth c H locs ls hX hS hW hL
  obtain ⟨hx, hb, hml, hr, hts, hown, hlk, hK, hSt⟩ := id hX
  exact lv_ineg hx hb hd (k p e s m args below meth c H locs ls hX hS hW hL)
theorem zt_ladd {G : ZG} {d : Nat} {M : ZM} {pc pc' : Nat} {L S : List ZV} {h : ZH} {Q : Option ZV → ZH → Prop} {x y : Int64} (hd : zD M.2.1 pc pc' .ladd 1) (k : zT G d M pc' L (zl (x + y) :: S) h Q) : zT G d M pc L (zl y :: zl x :: S) h Q := by
  obtain ⟨hd, rfl⟩ := hd
  intro p e s m args below meth c H locs ls hX hS hW hL
  obtain ⟨hx, hb, hml, hr, hts, hown, hlk, hK, hSt⟩ := id hX
  exact lv_ladd hx hb hd (k p e s m args below meth c H locs ls hX hS hW hL)
theorem zt_lsub {G : ZG} {d : Nat} {M : ZM} {pc pc' : Nat} {L S : List ZV} {h : ZH} {Q : Option ZV → ZH → Prop} {x y : Int64} (hd : zD M.2.1 pc pc' .lsub 1) (k : zT G d M pc' L (zl (x - y) :: S) h Q) : zT G d M pc L (zl y :: zl x :: S) h Q := by
  obtain ⟨hd, rfl⟩ := hd
  intro p e s m args below meth c H locs ls hX hS hW hL
  obtain ⟨hx, hb, hml, hr, hts, hown, hlk, hK, hSt⟩ := id hX
  exact lv_lsub hx hb hd (k p e s m args below meth c H locs ls hX hS hW hL)
theorem zt_lmul {G : ZG} {d : Nat} {M : ZM} {pc pc' : Nat} {L S : List ZV} {h : ZH} {Q : Option ZV → ZH → Prop} {x y : Int64} (hd : zD M.2.1 pc pc' .lmul 1) (k : zT G d M pc' L (zl (x * y) :: S) h Q) : zT G d M pc L (zl y :: zl x :: S) h Q := by
  obtain ⟨hd, rfl⟩ := hd
  intro p e s m args below meth c H locs ls hX hS hW hL
  obtain ⟨hx, hb, hml, hr, hts, hown, hlk, hK, hSt⟩ := id hX
  exact lv_lmul hx hb hd (k p e s m args below meth c H locs ls hX hS hW hL)
theorem zt_land {G : ZG} {d : Nat} {M : ZM} {pc pc' : Nat} {L S : List ZV} {h : ZH} {Q : Option ZV → ZH → Prop} {x y : Int64} (hd : zD M.2.1 pc pc' .land 1) (k : zT G d M pc' L (zl (x &&& y) :: S) h Q) : zT G d M pc L (zl y :: zl x :: S) h Q := by
  obtain ⟨hd, rfl⟩ := hd
  intro p e s m args below meth c H locs ls hX hS hW hL
  obtain ⟨hx, hb, hml, hr, hts, hown, hlk, hK, hSt⟩ := id hX
  exact lv_land hx hb hd (k p e s m args below meth c H locs ls hX hS hW hL)
theorem zt_lor {G : ZG} {d : Nat} {M : ZM} {pc pc' : Nat} {L S : List ZV} {h : ZH} {Q : Option ZV → ZH → Prop} {x y : Int64} (hd : zD M.2.1 pc pc' .lor 1) (k : zT G d M pc' L (zl (x ||| y) :: S) h Q) : zT G d M pc L (zl y :: zl x :: S) h Q := by
  obtain ⟨hd, rfl⟩ := hd
  intro p e s m args below meth c H locs ls hX hS hW hL
  obtain ⟨hx, hb, hml, hr, hts, hown, hlk, hK, hSt⟩ := id hX
  exact lv_lor hx hb hd (k p e s m args below meth c H locs ls hX hS hW hL)
theorem zt_ldiv {G : ZG} {d : Nat} {M : ZM} {pc pc' : Nat} {L S : List ZV} {h : ZH} {Q : Option ZV → ZH → Prop} {x y : Int64} (hd : zD M.2.1 pc pc' .ldiv 1) (hne : ¬ y = 0) (k : zT G d M pc' L (zl (x / y) :: S) h Q) : zT G d M pc L (zl y :: zl x :: S) h Q := by
  obtain ⟨hd, rfl⟩ := hd
  intro p e s m args below meth c H locs ls hX hS hW hL
  obtain ⟨hx, hb, hml, hr, hts, hown, hlk, hK, hSt⟩ := id hX
  exact lv_ldiv hx hb hd hne (k p e s m args below meth c H locs ls hX hS hW hL)
theorem zt_lrem {G : ZG} {d : Nat} {M : ZM} {pc pc' : Nat} {L S : List ZV} {h : ZH} {Q : Option ZV → ZH → Prop} {x y : Int64} (hd : zD M.2.1 pc pc' .lrem 1) (hne : ¬ y = 0) (k : zT G d M pc' L (zl (x - x / y * y) :: S) h Q) : zT G d M pc L (zl y :: zl x :: S) h Q := by
  obtain ⟨hd, rfl⟩ := hd
  intro p e s m args below meth c H locs ls hX hS hW hL
  obtain ⟨hx, hb, hml, hr, hts, hown, hlk, hK, hSt⟩ := id hX
  exact lv_lrem hx hb hd hne (k p e s m args below meth c H locs ls hX hS hW hL)
theorem zt_lushr {G : ZG} {d : Nat} {M : ZM} {pc pc' : Nat} {L S : List ZV} {h : ZH} {Q : Option ZV → ZH → Prop} {x : Int64} {y : Int32} (hd : zD M.2.1 pc pc' .lushr 1) (k : zT G d M pc' L (zl ((x.toUInt64 >>> (y.toInt64.toUInt64 &&& Int64.toUInt64 63)).toInt64) :: S) h Q) : zT G d M pc L (zi y :: zl x :: S) h Q := by
  obtain ⟨hd, rfl⟩ := hd
  intro p e s m args below meth c H locs ls hX hS hW hL
  obtain ⟨hx, hb, hml, hr, hts, hown, hlk, hK, hSt⟩ := id hX
  exact lv_lushr hx hb hd rfl (k p e s m args below meth c H locs ls hX hS hW hL)
theorem zt_lshl {G : ZG} {d : Nat} {M : ZM} {pc pc' : Nat} {L S : List ZV} {h : ZH} {Q : Option ZV → ZH → Prop} {x : Int64} {y : Int32} (hd : zD M.2.1 pc pc' .lshl 1) (k : zT G d M pc' L (zl (x <<< (y.toInt64 &&& 63)) :: S) h Q) : zT G d M pc L (zi y :: zl x :: S) h Q := by
  obtain ⟨hd, rfl⟩ := hd
  intro p e s m args below meth c H locs ls hX hS hW hL
  obtain ⟨hx, hb, hml, hr, hts, hown, hlk, hK, hSt⟩ := id hX
  exact lv_lshl hx hb hd rfl (k p e s m args below meth c H locs ls hX hS hW hL)
theorem zt_lshr {G : ZG} {d : Nat} {M : ZM} {pc pc' : Nat} {L S : List ZV} {h : ZH} {Q : Option ZV → ZH → Prop} {x : Int64} {y : Int32} (hd : zD M.2.1 pc pc' .lshr 1) (k : zT G d M pc' L (zl (x >>> (y.toInt64 &&& 63)) :: S) h Q) : zT G d M pc L (zi y :: zl x :: S) h Q := by
  obtain ⟨hd, rfl⟩ := hd
  intro p e s m args below meth c H locs ls hX hS hW hL
  obtain ⟨hx, hb, hml, hr, hts, hown, hlk, hK, hSt⟩ := id hX
  exact lv_lshr hx hb hd rfl (k p e s m args below meth c H locs ls hX hS hW hL)
theorem zt_lcmp {G : ZG} {d : Nat} {M : ZM} {pc pc' : Nat} {L S : List ZV} {h : ZH} {Q : Option ZV → ZH → Prop} {x y : Int64} (hd : zD M.2.1 pc pc' .lcmp 1) (k : zT G d M pc' L (zi (lg_cmp x y) :: S) h Q) : zT G d M pc L (zl y :: zl x :: S) h Q := by
  obtain ⟨hd, rfl⟩ := hd
  intro p e s m args below meth c H locs ls hX hS hW hL
  obtain ⟨hx, hb, hml, hr, hts, hown, hlk, hK, hSt⟩ := id hX
  exact W.lcmp hx hb hd (k p e s m args below meth c H locs ls hX hS hW hL)
theorem zt_i2l {G : ZG} {d : Nat} {M : ZM} {pc pc' : Nat} {L S : List ZV} {h : ZH} {Q : Option ZV → ZH → Prop} {x : Int32} (hd : zD M.2.1 pc pc' .i2l 1) (k : zT G d M pc' L (zl x.toInt64 :: S) h Q) : zT G d M pc L (zi x :: S) h Q := by
  obtain ⟨hd, rfl⟩ := hd
  intro p e s m args below meth c H locs ls hX hS hW hL
  obtain ⟨hx, hb, hml, hr, hts, hown, hlk, hK, hSt⟩ := id hX
  exact lv_i2l hx hb hd rfl (k p e s m args below meth c H locs ls hX hS hW hL)
theorem zt_l2i {G : ZG} {d : Nat} {M : ZM} {pc pc' : Nat} {L S : List ZV} {h : ZH} {Q : Option ZV → ZH → Prop} {x : Int64} (hd : zD M.2.1 pc pc' .l2i 1) (k : zT G d M pc' L (zi x.toInt32 :: S) h Q) : zT G d M pc L (zl x :: S) h Q := by
  obtain ⟨hd, rfl⟩ := hd
  intro p e s m args below meth c H locs ls hX hS hW hL
  obtain ⟨hx, hb, hml, hr, hts, hown, hlk, hK, hSt⟩ := id hX
  exact lv_l2i hx hb hd rfl (k p e s m args below meth c H locs ls hX hS hW hL)
theorem zt_i2b {G : ZG} {d : Nat} {M : ZM} {pc pc' : Nat} {L S : List ZV} {h : ZH} {Q : Option ZV → ZH → Prop} {x : Int32} (hd : zD M.2.1 pc pc' .i2b 1) (k : zT G d M pc' L (zi x.toInt8.toInt32 :: S) h Q) : zT G d M pc L (zi x :: S) h Q := by
  obtain ⟨hd, rfl⟩ := hd
  intro p e s m args below meth c H locs ls hX hS hW hL
  obtain ⟨hx, hb, hml, hr, hts, hown, hlk, hK, hSt⟩ := id hX
  exact lv_i2b hx hb hd rfl (k p e s m args below meth c H locs ls hX hS hW hL)
theorem zt_i2s {G : ZG} {d : Nat} {M : ZM} {pc pc' : Nat} {L S : List ZV} {h : ZH} {Q : Option ZV → ZH → Prop} {x : Int32} (hd : zD M.2.1 pc pc' .i2s 1) (k : zT G d M pc' L (zi x.toInt16.toInt32 :: S) h Q) : zT G d M pc L (zi x :: S) h Q := by
  obtain ⟨hd, rfl⟩ := hd
  intro p e s m args below meth c H locs ls hX hS hW hL
  obtain ⟨hx, hb, hml, hr, hts, hown, hlk, hK, hSt⟩ := id hX
  exact lv_i2s hx hb hd rfl (k p e s m args below meth c H locs ls hX hS hW hL)
theorem zt_iconst {G : ZG} {d : Nat} {M : ZM} {pc pc' : Nat} {L S : List ZV} {h : ZH} {Q : Option ZV → ZH → Prop} {n : Int} {v : Int32} (hd : zD M.2.1 pc pc' (.iconst n) 1) (hv : Int32.ofInt n = v) (k : zT G d M pc' L (zi v :: S) h Q) : zT G d M pc L S h Q := by
  obtain ⟨hd, rfl⟩ := hd
  intro p e s m args below meth c H locs ls hX hS hW hL
  obtain ⟨hx, hb, hml, hr, hts, hown, hlk, hK, hSt⟩ := id hX
  exact lv_iconst hx hb hd hv (k p e s m args below meth c H locs ls hX hS hW hL)
theorem zt_bipush {G : ZG} {d : Nat} {M : ZM} {pc pc' : Nat} {L S : List ZV} {h : ZH} {Q : Option ZV → ZH → Prop} {n : Int} {v : Int32} (hd : zD M.2.1 pc pc' (.bipush n) 2) (hv : (Int8.ofInt n).toInt32 = v) (k : zT G d M pc' L (zi v :: S) h Q) : zT G d M pc L S h Q := by
  obtain ⟨hd, rfl⟩ := hd
  intro p e s m args below meth c H locs ls hX hS hW hL
  obtain ⟨hx, hb, hml, hr, hts, hown, hlk, hK, hSt⟩ := id hX
  exact lv_bipush hx hb hd hv (k p e s m args below meth c H locs ls hX hS hW hL)
theorem zt_sipush {G : ZG} {d : Nat} {M : ZM} {pc pc' : Nat} {L S : List ZV} {h : ZH} {Q : Option ZV → ZH → Prop} {n : Int} {v : Int32} (hd : zD M.2.1 pc pc' (.sipush n) 3) (hv : (Int16.ofInt n).toInt32 = v) (k : zT G d M pc' L (zi v :: S) h Q) : zT G d M pc L S h Q := by
  obtain ⟨hd, rfl⟩ := hd
  intro p e s m args below meth c H locs ls hX hS hW hL
  obtain ⟨hx, hb, hml, hr, hts, hown, hlk, hK, hSt⟩ := id hX
  exact lv_sipush hx hb hd hv (k p e s m args below meth c H locs ls hX hS hW hL)
theorem zt_lconst {G : ZG} {d : Nat} {M : ZM} {pc pc' : Nat} {L S : List ZV} {h : ZH} {Q : Option ZV → ZH → Prop} {n : Fin 2} {v : Int64} (hd : zD M.2.1 pc pc' (.lconst n) 1) (hv : Int64.ofNat (n : Nat) = v) (k : zT G d M pc' L (zl v :: S) h Q) : zT G d M pc L S h Q := by
  obtain ⟨hd, rfl⟩ := hd
  intro p e s m args below meth c H locs ls hX hS hW hL
  obtain ⟨hx, hb, hml, hr, hts, hown, hlk, hK, hSt⟩ := id hX
  exact lv_lconst hx hb hd hv (k p e s m args below meth c H locs ls hX hS hW hL)
theorem zt_ldc {G : ZG} {d : Nat} {M : ZM} {pc pc' : Nat} {L S : List ZV} {h : ZH} {Q : Option ZV → ZH → Prop} {index : Nat} {v : Int32} (hd : zD M.2.1 pc pc' (.ldc index) 2) (hw : Cond.constant M.1.cls index v ∈ zall) (k : zT G d M pc' L (zi v :: S) h Q) : zT G d M pc L S h Q := by
  obtain ⟨hd, rfl⟩ := hd
  intro p e s m args below meth c H locs ls hX hS hW hL
  obtain ⟨hx, hb, hml, hr, hts, hown, hlk, hK, hSt⟩ := id hX
  exact lv_ldc hx hb hown (hts _ hw) hd (k p e s m args below meth c H locs ls hX hS hW hL)
theorem zt_ldcw {G : ZG} {d : Nat} {M : ZM} {pc pc' : Nat} {L S : List ZV} {h : ZH} {Q : Option ZV → ZH → Prop} {index : Nat} {v : Int32} (hd : zD M.2.1 pc pc' (.ldc_w index) 3) (hw : Cond.constant M.1.cls index v ∈ zall) (k : zT G d M pc' L (zi v :: S) h Q) : zT G d M pc L S h Q := by
  obtain ⟨hd, rfl⟩ := hd
  intro p e s m args below meth c H locs ls hX hS hW hL
  obtain ⟨hx, hb, hml, hr, hts, hown, hlk, hK, hSt⟩ := id hX
  exact lv_ldcw hx hb hown (hts _ hw) hd (k p e s m args below meth c H locs ls hX hS hW hL)
theorem zt_ldc2 {G : ZG} {d : Nat} {M : ZM} {pc pc' : Nat} {L S : List ZV} {h : ZH} {Q : Option ZV → ZH → Prop} {index : Nat} {v : Int64} (hd : zD M.2.1 pc pc' (.ldc2_w index) 3) (hw : Cond.constantLong M.1.cls index v ∈ zall) (k : zT G d M pc' L (zl v :: S) h Q) : zT G d M pc L S h Q := by
  obtain ⟨hd, rfl⟩ := hd
  intro p e s m args below meth c H locs ls hX hS hW hL
  obtain ⟨hx, hb, hml, hr, hts, hown, hlk, hK, hSt⟩ := id hX
  exact lv_ldc2 hx hb hown (hts _ hw) hd (k p e s m args below meth c H locs ls hX hS hW hL)
theorem zt_iload_n {G : ZG} {d : Nat} {M : ZM} {pc pc' : Nat} {L S : List ZV} {h : ZH} {Q : Option ZV → ZH → Prop} {n : Fin 4} {x : Int32} (hd : zD M.2.1 pc pc' (.iload_n n) 1) (hl : L[(n : Nat)]? = some (zi x)) (k : zT G d M pc' L (zi x :: S) h Q) : zT G d M pc L S h Q := by
  obtain ⟨hd, rfl⟩ := hd
  intro p e s m args below meth c H locs ls hX hS hW hL
  obtain ⟨hx, hb, hml, hr, hts, hown, hlk, hK, hSt⟩ := id hX
  exact lv_iload_n hx hb hd rfl (hL.2.2 _ _ hl (by intro q; cases q)) (k p e s m args below meth c H locs ls hX hS hW hL)
theorem zt_iload {G : ZG} {d : Nat} {M : ZM} {pc pc' : Nat} {L S : List ZV} {h : ZH} {Q : Option ZV → ZH → Prop} {n : Nat} {x : Int32} (hd : zD M.2.1 pc pc' (.iload n) 2) (hl : L[n]? = some (zi x)) (k : zT G d M pc' L (zi x :: S) h Q) : zT G d M pc L S h Q := by
  obtain ⟨hd, rfl⟩ := hd
  intro p e s m args below meth c H locs ls hX hS hW hL
  obtain ⟨hx, hb, hml, hr, hts, hown, hlk, hK, hSt⟩ := id hX
  exact lv_iload hx hb hd (hL.2.2 _ _ hl (by intro q; cases q)) (k p e s m args below meth c H locs ls hX hS hW hL)
theorem zt_lload_n {G : ZG} {d : Nat} {M : ZM} {pc pc' : Nat} {L S : List ZV} {h : ZH} {Q : Option ZV → ZH → Prop} {n : Fin 4} {x : Int64} (hd : zD M.2.1 pc pc' (.lload_n n) 1) (hl : L[(n : Nat)]? = some (zl x)) (k : zT G d M pc' L (zl x :: S) h Q) : zT G d M pc L S h Q := by
  obtain ⟨hd, rfl⟩ := hd
  intro p e s m args below meth c H locs ls hX hS hW hL
  obtain ⟨hx, hb, hml, hr, hts, hown, hlk, hK, hSt⟩ := id hX
  exact lv_lload_n hx hb hd rfl (hL.2.2 _ _ hl (by intro q; cases q)) (k p e s m args below meth c H locs ls hX hS hW hL)
theorem zt_lload {G : ZG} {d : Nat} {M : ZM} {pc pc' : Nat} {L S : List ZV} {h : ZH} {Q : Option ZV → ZH → Prop} {n : Nat} {x : Int64} (hd : zD M.2.1 pc pc' (.lload n) 2) (hl : L[n]? = some (zl x)) (k : zT G d M pc' L (zl x :: S) h Q) : zT G d M pc L S h Q := by
  obtain ⟨hd, rfl⟩ := hd
  intro p e s m args below meth c H locs ls hX hS hW hL
  obtain ⟨hx, hb, hml, hr, hts, hown, hlk, hK, hSt⟩ := id hX
  exact lv_lload hx hb hd (hL.2.2 _ _ hl (by intro q; cases q)) (k p e s m args below meth c H locs ls hX hS hW hL)
theorem zt_aload_n {G : ZG} {d : Nat} {M : ZM} {pc pc' : Nat} {L S : List ZV} {h : ZH} {Q : Option ZV → ZH → Prop} {n : Fin 4} {a b : Nat} (hd : zD M.2.1 pc pc' (.aload_n n) 1) (hl : L[(n : Nat)]? = some (zr a b)) (k : zT G d M pc' L (zr a b :: S) h Q) : zT G d M pc L S h Q := by
  obtain ⟨hd, rfl⟩ := hd
  intro p e s m args below meth c H locs ls hX hS hW hL
  obtain ⟨hx, hb, hml, hr, hts, hown, hlk, hK, hSt⟩ := id hX
  exact lv_aload_n hx hb hd rfl (hL.2.2 _ _ hl (by intro q; cases q)) (k p e s m args below meth c H locs ls hX hS hW hL)
theorem zt_aload {G : ZG} {d : Nat} {M : ZM} {pc pc' : Nat} {L S : List ZV} {h : ZH} {Q : Option ZV → ZH → Prop} {n : Nat} {a b : Nat} (hd : zD M.2.1 pc pc' (.aload n) 2) (hl : L[n]? = some (zr a b)) (k : zT G d M pc' L (zr a b :: S) h Q) : zT G d M pc L S h Q := by
  obtain ⟨hd, rfl⟩ := hd
  intro p e s m args below meth c H locs ls hX hS hW hL
  obtain ⟨hx, hb, hml, hr, hts, hown, hlk, hK, hSt⟩ := id hX
  exact lv_aload hx hb hd (hL.2.2 _ _ hl (by intro q; cases q)) (k p e s m args below meth c H locs ls hX hS hW hL)
theorem zcat1 (G : ZG) {v : ZV} (hv : ∀ x, v ≠ zl x) : (zc G v).category = 1 := by
  rcases v with x | x | q | u
  · rfl
  · exact absurd rfl (hv x)
  · rfl
  · rfl
/-- storing into a local: of one slot, of two -/
def zst1 : List ZV → Nat → ZV → List ZV
  | [], _, _ => []
  | _ :: L, 0, v => v :: L
  | Sum.inr (Sum.inl _) :: L, 1, v => zu :: zst1 L 0 v
  | a :: L, i + 1, v => a :: zst1 L i v
def zst2 : List ZV → Nat → Int64 → List ZV
  | _ :: _ :: L, 0, v => zl v :: zu :: L
  | Sum.inr (Sum.inl _) :: L, 1, v => zu :: zst2 L 0 v
  | a :: L, i + 1, v => a :: zst2 L i v
  | _, _, _ => []
theorem zst1_get : ∀ (L : List ZV) (i : Nat) (v : ZV) (j : Nat) (w : ZV), (zst1 L i v)[j]? = some w → w ≠ zu → (j = i ∧ w = v) ∨ (j ≠ i ∧ L[j]? = some w ∧ ¬ (j + 1 = i ∧ ∃ x, w = zl x)) := by
  intro L
  induction L with
  | nil => intro i v j w h; simp [zst1] at h
  | cons a L ih =>
    intro i v j w h hw
    match i with
    | 0 =>
      simp only [zst1] at h
      cases j with
      | zero => simp only [List.getElem?_cons_zero, Option.some.injEq] at h; exact Or.inl ⟨rfl, h.symm⟩
      | succ j => simp only [List.getElem?_cons_succ] at h; exact Or.inr ⟨by omega, by simpa using h, by omega⟩
    | 1 =>
      rcases a with x | x | q | u
      all_goals
        simp only [zst1] at h
        cases j with
        | zero =>
          simp only [List.getElem?_cons_zero, Option.some.injEq] at h
          subst h
          first
            | exact absurd rfl hw
            | exact Or.inr ⟨by omega, rfl, fun q => by obtain ⟨-, x, hx⟩ := q; cases hx⟩
        | succ j =>
          simp only [List.getElem?_cons_succ] at h
          rcases ih 0 v j w h hw with ⟨e1, e2⟩ | ⟨e1, e2, e3⟩
          · exact Or.inl ⟨by omega, e2⟩
          · exact Or.inr ⟨by omega, by simpa using e2, by omega⟩
    | i + 2 =>
      have hz : zst1 (a :: L) (i + 2) v = a :: zst1 L (i + 1) v := by
        rcases a with x | x | q | u <;> rfl
      rw [hz] at h
      cases j with
      | zero => simp only [List.getElem?_cons_zero, Option.some.injEq] at h; subst h; exact Or.inr ⟨by omega, rfl, by omega⟩
      | succ j =>
        simp only [List.getElem?_cons_succ] at h
        rcases ih (i + 1) v j w h hw with ⟨e1, e2⟩ | ⟨e1, e2, e3⟩
        · exact Or.inl ⟨by omega, e2⟩
        · exact Or.inr ⟨by omega, by simpa using e2, fun q => e3 ⟨by omega, q.2⟩⟩
theorem zst2_get : ∀ (L : List ZV) (i : Nat) (v : Int64) (j : Nat) (w : ZV), (zst2 L i v)[j]? = some w → w ≠ zu → (j = i ∧ w = zl v) ∨ (j ≠ i ∧ j ≠ i + 1 ∧ L[j]? = some w ∧ ¬ (j + 1 = i ∧ ∃ x, w = zl x)) := by
  intro L
  induction L with
  | nil => intro i v j w h; simp [zst2] at h
  | cons a L ih =>
    intro i v j w h hw
    match i with
    | 0 =>
      cases L with
      | nil => rcases a with x | x | q | u <;> simp [zst2] at h
      | cons b L =>
        simp only [zst2] at h
        match j with
        | 0 => simp only [List.getElem?_cons_zero, Option.some.injEq] at h; exact Or.inl ⟨rfl, h.symm⟩
        | 1 => simp only [List.getElem?_cons_succ, List.getElem?_cons_zero, Option.some.injEq] at h; exact absurd h.symm hw
        | j + 2 => simp only [List.getElem?_cons_succ] at h; exact Or.inr ⟨by omega, by omega, by simpa using h, by omega⟩
    | 1 =>
      rcases a with x | x | q | u
      all_goals
        simp only [zst2] at h
        cases j with
        | zero =>
          simp only [List.getElem?_cons_zero, Option.some.injEq] at h
          subst h
          first
            | exact absurd rfl hw
            | exact Or.inr ⟨by omega, by omega, rfl, fun q => by obtain ⟨-, x, hx⟩ := q; cases hx⟩
        | succ j =>
          simp only [List.getElem?_cons_succ] at h
          rcases ih 0 v j w h hw with ⟨e1, e2⟩ | ⟨e1, e1', e2, e3⟩
          · exact Or.inl ⟨by omega, e2⟩
          · exact Or.inr ⟨by omega, by omega, by simpa using e2, by omega⟩
    | i + 2 =>
      have hz : zst2 (a :: L) (i + 2) v = a :: zst2 L (i + 1) v := by
        rcases a with x | x | q | u <;> cases L <;> rfl
      rw [hz] at h
      cases j with
      | zero => simp only [List.getElem?_cons_zero, Option.some.injEq] at h; subst h; exact Or.inr ⟨by omega, by omega, rfl, by omega⟩
      | succ j =>
        simp only [List.getElem?_cons_succ] at h
        rcases ih (i + 1) v j w h hw with ⟨e1, e2⟩ | ⟨e1, e1', e2, e3⟩
        · exact Or.inl ⟨by omega, e2⟩
        · exact Or.inr ⟨by omega, by omega, by simpa using e2, fun q => e3 ⟨by omega, q.2⟩⟩
/-- the listed locals, as the kit has them -/
def zas (G : ZG) (L : List ZV) : List (Nat × Value) := (List.range L.length).filterMap (fun i => match L[i]? with
  | some (Sum.inr (Sum.inr (Sum.inr _))) => none
  | some v => some (i, zc G v)
  | none => none)
theorem zas_mem (G : ZG) {L : List ZV} {i : Nat} {v : ZV} (h : L[i]? = some v) (hv : v ≠ zu) : (i, zc G v) ∈ zas G L := by
  refine List.mem_filterMap.mpr ⟨i, List.mem_range.mpr (List.getElem?_eq_some_iff.mp h).1, ?_⟩
  rw [h]
  rcases v with x | x | q | u
  · rfl
  · rfl
  · rfl
  · exact absurd rfl hv
theorem zas_has {G : ZG} {ls : Array Slot} {nL : Nat} {L : List ZV} (h : zlo G ls nL L) : lv_has ls nL (zas G L) := by
  refine ⟨h.1, h.2.1, fun q hq => ?_⟩
  obtain ⟨i, -, hi⟩ := List.mem_filterMap.mp hq
  cases hx : L[i]? with
  | none => rw [hx] at hi; cases hi
  | some v =>
    rw [hx] at hi
    rcases v with x | x | r | u
    · cases hi; exact h.2.2 i _ hx (by intro q; cases q)
    · cases hi; exact h.2.2 i _ hx (by intro q; cases q)
    · cases hi; exact h.2.2 i _ hx (by intro q; cases q)
    · cases hi
theorem zc_cat2 {G : ZG} {v : ZV} (h : (zc G v).category = 2) : ∃ x, v = zl x := by
  rcases v with x | x | q | u
  · cases h
  · exact ⟨x, rfl⟩
  · cases h
  · cases h
theorem zlo_st1 {G : ZG} {ls : Array Slot} {nL : Nat} {L : List ZV} {i : Nat} {v : ZV} (h : lv_has ls nL ((i, zc G v) :: (zas G L).filter (fun q => !(q.1 == i) && !(q.1 + 1 == i && q.2.category == 2)))) : zlo G ls nL (zst1 L i v) := by
  refine ⟨h.1, h.2.1, fun j w hj hw => ?_⟩
  rcases zst1_get L i v j w hj hw with ⟨e1, e2⟩ | ⟨e1, e2, e3⟩
  · subst e1; subst e2
    exact h.2.2 (j, zc G w) List.mem_cons_self
  · refine h.2.2 (j, zc G w) (List.mem_cons_of_mem _ (List.mem_filter.mpr ⟨zas_mem G e2 hw, ?_⟩))
    simp only [Bool.and_eq_true, Bool.not_eq_true', beq_eq_false_iff_ne, ne_eq, Bool.and_eq_false_iff]
    refine ⟨e1, ?_⟩
    by_cases hji : j + 1 = i
    · exact Or.inr (fun q => e3 ⟨hji, zc_cat2 q⟩)
    · exact Or.inl hji
theorem zlo_st2 {G : ZG} {ls : Array Slot} {nL : Nat} {L : List ZV} {i : Nat} {v : Int64} (h : lv_has ls nL ((i, Value.long v) :: (zas G L).filter (fun q => !(q.1 == i) && (!(q.1 == i + 1) && !(q.1 + 1 == i && q.2.category == 2))))) : zlo G ls nL (zst2 L i v) := by
  refine ⟨h.1, h.2.1, fun j w hj hw => ?_⟩
  rcases zst2_get L i v j w hj hw with ⟨e1, e2⟩ | ⟨e1, e1', e2, e3⟩
  · subst e1; subst e2
    exact h.2.2 (j, Value.long v) List.mem_cons_self
  · refine h.2.2 (j, zc G w) (List.mem_cons_of_mem _ (List.mem_filter.mpr ⟨zas_mem G e2 hw, ?_⟩))
    simp only [Bool.and_eq_true, Bool.not_eq_true', beq_eq_false_iff_ne, ne_eq, Bool.and_eq_false_iff]
    refine ⟨e1, e1', ?_⟩
    by_cases hji : j + 1 = i
    · exact Or.inr (fun q => e3 ⟨hji, zc_cat2 q⟩)
    · exact Or.inl hji
theorem zt_istore_n {G : ZG} {d : Nat} {M : ZM} {pc pc' : Nat} {L S : List ZV} {h : ZH} {Q : Option ZV → ZH → Prop} {L' : List ZV} {n : Fin 4} {x : Int32} (hd : zD M.2.1 pc pc' (.istore_n n) 1) (hn : (n : Nat) < M.2.2.1) (hl : zst1 L (n : Nat) (zi x) = L') (k : zT G d M pc' L' S h Q) : zT G d M pc L (((zi x)) :: S) h Q := by
  obtain ⟨hd, rfl⟩ := hd
  intro p e s m args below meth c H locs ls hX hS hW hL
  obtain ⟨hx, hb, hml, hr, hts, hown, hlk, hK, hSt⟩ := id hX
  subst hl
  exact lv_istore_n hx hb hd rfl (zas_has hL) hn rfl (fun ls h1 => k p e s m args below meth c H locs ls hX hS hW (zlo_st1 (v := (zi x)) h1))
theorem zt_istore {G : ZG} {d : Nat} {M : ZM} {pc pc' : Nat} {L S : List ZV} {h : ZH} {Q : Option ZV → ZH → Prop} {L' : List ZV} {n : Nat} {x : Int32} (hd : zD M.2.1 pc pc' (.istore n) 2) (hn : n < M.2.2.1) (hl : zst1 L n (zi x) = L') (k : zT G d M pc' L' S h Q) : zT G d M pc L (((zi x)) :: S) h Q := by
  obtain ⟨hd, rfl⟩ := hd
  intro p e s m args below meth c H locs ls hX hS hW hL
  obtain ⟨hx, hb, hml, hr, hts, hown, hlk, hK, hSt⟩ := id hX
  subst hl
  exact lv_istore hx hb hd (zas_has hL) hn rfl (fun ls h1 => k p e s m args below meth c H locs ls hX hS hW (zlo_st1 (v := (zi x)) h1))
theorem zt_lstore_n {G : ZG} {d : Nat} {M : ZM} {pc pc' : Nat} {L S : List ZV} {h : ZH} {Q : Option ZV → ZH → Prop} {L' : List ZV} {n : Fin 4} {x : Int64} (hd : zD M.2.1 pc pc' (.lstore_n n) 1) (hn : (n : Nat) + 1 < M.2.2.1) (hl : zst2 L (n : Nat) x = L') (k : zT G d M pc' L' S h Q) : zT G d M pc L ((zl x) :: S) h Q := by
  obtain ⟨hd, rfl⟩ := hd
  intro p e s m args below meth c H locs ls hX hS hW hL
  obtain ⟨hx, hb, hml, hr, hts, hown, hlk, hK, hSt⟩ := id hX
  subst hl
  exact lv_lstore_n hx hb hd rfl (zas_has hL) hn rfl (fun ls h1 => k p e s m args below meth c H locs ls hX hS hW (zlo_st2 h1))
theorem zt_lstore {G : ZG} {d : Nat} {M : ZM} {pc pc' : Nat} {L S : List ZV} {h : ZH} {Q : Option ZV → ZH → Prop} {L' : List ZV} {n : Nat} {x : Int64} (hd : zD M.2.1 pc pc' (.lstore n) 2) (hn : n + 1 < M.2.2.1) (hl : zst2 L n x = L') (k : zT G d M pc' L' S h Q) : zT G d M pc L ((zl x) :: S) h Q := by
  obtain ⟨hd, rfl⟩ := hd
  intro p e s m args below meth c H locs ls hX hS hW hL
  obtain ⟨hx, hb, hml, hr, hts, hown, hlk, hK, hSt⟩ := id hX
  subst hl
  exact lv_lstore hx hb hd (zas_has hL) hn rfl (fun ls h1 => k p e s m args below meth c H locs ls hX hS hW (zlo_st2 h1))
theorem zt_astore_n {G : ZG} {d : Nat} {M : ZM} {pc pc' : Nat} {L S : List ZV} {h : ZH} {Q : Option ZV → ZH → Prop} {L' : List ZV} {n : Fin 4} {a b : Nat} (hd : zD M.2.1 pc pc' (.astore_n n) 1) (hn : (n : Nat) < M.2.2.1) (hl : zst1 L (n : Nat) (zr a b) = L') (k : zT G d M pc' L' S h Q) : zT G d M pc L (((zr a b)) :: S) h Q := by
  obtain ⟨hd, rfl⟩ := hd
  intro p e s m args below meth c H locs ls hX hS hW hL
  obtain ⟨hx, hb, hml, hr, hts, hown, hlk, hK, hSt⟩ := id hX
  subst hl
  exact lv_astore_n hx hb hd rfl (zas_has hL) hn rfl (fun ls h1 => k p e s m args below meth c H locs ls hX hS hW (zlo_st1 (v := (zr a b)) h1))
theorem zt_astore {G : ZG} {d : Nat} {M : ZM} {pc pc' : Nat} {L S : List ZV} {h : ZH} {Q : Option ZV → ZH → Prop} {L' : List ZV} {n : Nat} {a b : Nat} (hd : zD M.2.1 pc pc' (.astore n) 2) (hn : n < M.2.2.1) (hl : zst1 L n (zr a b) = L') (k : zT G d M pc' L' S h Q) : zT G d M pc L (((zr a b)) :: S) h Q := by
  obtain ⟨hd, rfl⟩ := hd
  intro p e s m args below meth c H locs ls hX hS hW hL
  obtain ⟨hx, hb, hml, hr, hts, hown, hlk, hK, hSt⟩ := id hX
  subst hl
  exact lv_astore hx hb hd (zas_has hL) hn rfl (fun ls h1 => k p e s m args below meth c H locs ls hX hS hW (zlo_st1 (v := (zr a b)) h1))
theorem zt_iinc {G : ZG} {d : Nat} {M : ZM} {pc pc' : Nat} {L S : List ZV} {h : ZH} {Q : Option ZV → ZH → Prop} {L' : List ZV} {i : Nat} {n : Int} {x v : Int32} (hd : zD M.2.1 pc pc' (.iinc i n) 3) (hi : L[i]? = some (zi x)) (hv : x + Int32.ofInt n = v) (hn : i < M.2.2.1) (hl : zst1 L i (zi v) = L') (k : zT G d M pc' L' S h Q) : zT G d M pc L S h Q := by
  obtain ⟨hd, rfl⟩ := hd
  intro p e s m args below meth c H locs ls hX hS hW hL
  obtain ⟨hx, hb, hml, hr, hts, hown, hlk, hK, hSt⟩ := id hX
  subst hl
  obtain ⟨q, hq⟩ := List.getElem?_of_mem (zas_mem G hi (by intro q; cases q))
  exact lv_iinc hx hb hd (zas_has hL) hq hv hn rfl (fun ls h1 => k p e s m args below meth c H locs ls hX hS hW (zlo_st1 (v := zi v) h1))
theorem zt_dup {G : ZG} {d : Nat} {M : ZM} {pc pc' : Nat} {L S : List ZV} {h : ZH} {Q : Option ZV → ZH → Prop} {v : ZV} (hd : zD M.2.1 pc pc' .dup 1) (hv : ∀ x, v ≠ zl x) (k : zT G d M pc' L (v :: v :: S) h Q) : zT G d M pc L (v :: S) h Q := by
  obtain ⟨hd, rfl⟩ := hd
  intro p e s m args below meth c H locs ls hX hS hW hL
  obtain ⟨hx, hb, hml, hr, hts, hown, hlk, hK, hSt⟩ := id hX
  exact lv_dup hx hb hd (zcat1 G hv) (k p e s m args below meth c H locs ls hX hS hW hL)
theorem zt_pop {G : ZG} {d : Nat} {M : ZM} {pc pc' : Nat} {L S : List ZV} {h : ZH} {Q : Option ZV → ZH → Prop} {v : ZV} (hd : zD M.2.1 pc pc' .pop 1) (hv : ∀ x, v ≠ zl x) (k : zT G d M pc' L S h Q) : zT G d M pc L (v :: S) h Q := by
  obtain ⟨hd, rfl⟩ := hd
  intro p e s m args below meth c H locs ls hX hS hW hL
  obtain ⟨hx, hb, hml, hr, hts, hown, hlk, hK, hSt⟩ := id hX
  exact lv_pop hx hb hd (zcat1 G hv) (k p e s m args below meth c H locs ls hX hS hW hL)
theorem zt_dup_x2 {G : ZG} {d : Nat} {M : ZM} {pc pc' : Nat} {L S : List ZV} {h : ZH} {Q : Option ZV → ZH → Prop} {v w u : ZV} (hd : zD M.2.1 pc pc' .dup_x2 1) (hv : ∀ x, v ≠ zl x) (hw : ∀ x, w ≠ zl x) (hu : ∀ x, u ≠ zl x) (k : zT G d M pc' L (v :: w :: u :: v :: S) h Q) : zT G d M pc L (v :: w :: u :: S) h Q := by
  obtain ⟨hd, rfl⟩ := hd
  intro p e s m args below meth c H locs ls hX hS hW hL
  obtain ⟨hx, hb, hml, hr, hts, hown, hlk, hK, hSt⟩ := id hX
  exact lv_dup_x2 hx hb hd (zcat1 G hv) (zcat1 G hw) (zcat1 G hu) (k p e s m args below meth c H locs ls hX hS hW hL)
theorem zt_dup_x1 {G : ZG} {d : Nat} {M : ZM} {pc pc' : Nat} {L S : List ZV} {h : ZH} {Q : Option ZV → ZH → Prop} {v w : ZV} (hd : zD M.2.1 pc pc' .dup_x1 1) (hv : ∀ x, v ≠ zl x) (hw : ∀ x, w ≠ zl x) (k : zT G d M pc' L (v :: w :: v :: S) h Q) : zT G d M pc L (v :: w :: S) h Q := by
  obtain ⟨hd, rfl⟩ := hd
  intro p e s m args below meth c H locs ls hX hS hW hL
  obtain ⟨hx, hb, hml, hr, hts, hown, hlk, hK, hSt⟩ := id hX
  exact lv_dup_x1 hx hb hd (zcat1 G hv) (zcat1 G hw) (k p e s m args below meth c H locs ls hX hS hW hL)
theorem zt_dup2 {G : ZG} {d : Nat} {M : ZM} {pc pc' : Nat} {L S : List ZV} {h : ZH} {Q : Option ZV → ZH → Prop} {v w : ZV} (hd : zD M.2.1 pc pc' .dup2 1) (hv : ∀ x, v ≠ zl x) (hw : ∀ x, w ≠ zl x) (k : zT G d M pc' L (v :: w :: v :: w :: S) h Q) : zT G d M pc L (v :: w :: S) h Q := by
  obtain ⟨hd, rfl⟩ := hd
  intro p e s m args below meth c H locs ls hX hS hW hL
  obtain ⟨hx, hb, hml, hr, hts, hown, hlk, hK, hSt⟩ := id hX
  exact lv_dup2_11 hx hb hd (zcat1 G hv) (zcat1 G hw) (k p e s m args below meth c H locs ls hX hS hW hL)
theorem zt_icmp_eq {G : ZG} {d : Nat} {M : ZM} {pc pc' tgt : Nat} {L S : List ZV} {h : ZH} {Q : Option ZV → ZH → Prop} {x y : Int32} {off : Int} (hd : zB M.2.1 pc pc' tgt (.if_icmp .eq off) off) (kt : x = y → zT G d M tgt L S h Q) (kf : ¬ x = y → zT G d M pc' L S h Q) : zT G d M pc L (zi y :: zi x :: S) h Q := by
  obtain ⟨hd, rfl, ht⟩ := hd
  intro p e s m args below meth c H locs ls hX hS hW hL
  obtain ⟨hx, hb, hml, hr, hts, hown, hlk, hK, hSt⟩ := id hX
  exact lv_icmp_eq hx hb hd ht (fun q => kt q p e s m args below meth c H locs ls hX hS hW hL) (fun q => kf q p e s m args below meth c H locs ls hX hS hW hL)
theorem zt_if_eq {G : ZG} {d : Nat} {M : ZM} {pc pc' tgt : Nat} {L S : List ZV} {h : ZH} {Q : Option ZV → ZH → Prop} {x : Int32} {off : Int} (hd : zB M.2.1 pc pc' tgt (.ifCond .eq off) off) (kt : x = 0 → zT G d M tgt L S h Q) (kf : ¬ x = 0 → zT G d M pc' L S h Q) : zT G d M pc L (zi x :: S) h Q := by
  obtain ⟨hd, rfl, ht⟩ := hd
  intro p e s m args below meth c H locs ls hX hS hW hL
  obtain ⟨hx, hb, hml, hr, hts, hown, hlk, hK, hSt⟩ := id hX
  exact lv_if_eq hx hb hd ht (fun q => kt q p e s m args below meth c H locs ls hX hS hW hL) (fun q => kf q p e s m args below meth c H locs ls hX hS hW hL)
theorem zt_icmp_ne {G : ZG} {d : Nat} {M : ZM} {pc pc' tgt : Nat} {L S : List ZV} {h : ZH} {Q : Option ZV → ZH → Prop} {x y : Int32} {off : Int} (hd : zB M.2.1 pc pc' tgt (.if_icmp .ne off) off) (kt : ¬ x = y → zT G d M tgt L S h Q) (kf : x = y → zT G d M pc' L S h Q) : zT G d M pc L (zi y :: zi x :: S) h Q := by
  obtain ⟨hd, rfl, ht⟩ := hd
  intro p e s m args below meth c H locs ls hX hS hW hL
  obtain ⟨hx, hb, hml, hr, hts, hown, hlk, hK, hSt⟩ := id hX
  exact lv_icmp_ne hx hb hd ht (fun q => kt q p e s m args below meth c H locs ls hX hS hW hL) (fun q => kf q p e s m args below meth c H locs ls hX hS hW hL)
theorem zt_if_ne {G : ZG} {d : Nat} {M : ZM} {pc pc' tgt : Nat} {L S : List ZV} {h : ZH} {Q : Option ZV → ZH → Prop} {x : Int32} {off : Int} (hd : zB M.2.1 pc pc' tgt (.ifCond .ne off) off) (kt : ¬ x = 0 → zT G d M tgt L S h Q) (kf : x = 0 → zT G d M pc' L S h Q) : zT G d M pc L (zi x :: S) h Q := by
  obtain ⟨hd, rfl, ht⟩ := hd
  intro p e s m args below meth c H locs ls hX hS hW hL
  obtain ⟨hx, hb, hml, hr, hts, hown, hlk, hK, hSt⟩ := id hX
  exact lv_if_ne hx hb hd ht (fun q => kt q p e s m args below meth c H locs ls hX hS hW hL) (fun q => kf q p e s m args below meth c H locs ls hX hS hW hL)
theorem zt_icmp_lt {G : ZG} {d : Nat} {M : ZM} {pc pc' tgt : Nat} {L S : List ZV} {h : ZH} {Q : Option ZV → ZH → Prop} {x y : Int32} {off : Int} (hd : zB M.2.1 pc pc' tgt (.if_icmp .lt off) off) (kt : x < y → zT G d M tgt L S h Q) (kf : ¬ x < y → zT G d M pc' L S h Q) : zT G d M pc L (zi y :: zi x :: S) h Q := by
  obtain ⟨hd, rfl, ht⟩ := hd
  intro p e s m args below meth c H locs ls hX hS hW hL
  obtain ⟨hx, hb, hml, hr, hts, hown, hlk, hK, hSt⟩ := id hX
  exact lv_icmp_lt hx hb hd ht (fun q => kt q p e s m args below meth c H locs ls hX hS hW hL) (fun q => kf q p e s m args below meth c H locs ls hX hS hW hL)
theorem zt_if_lt {G : ZG} {d : Nat} {M : ZM} {pc pc' tgt : Nat} {L S : List ZV} {h : ZH} {Q : Option ZV → ZH → Prop} {x : Int32} {off : Int} (hd : zB M.2.1 pc pc' tgt (.ifCond .lt off) off) (kt : x < 0 → zT G d M tgt L S h Q) (kf : ¬ x < 0 → zT G d M pc' L S h Q) : zT G d M pc L (zi x :: S) h Q := by
  obtain ⟨hd, rfl, ht⟩ := hd
  intro p e s m args below meth c H locs ls hX hS hW hL
  obtain ⟨hx, hb, hml, hr, hts, hown, hlk, hK, hSt⟩ := id hX
  exact lv_if_lt hx hb hd ht (fun q => kt q p e s m args below meth c H locs ls hX hS hW hL) (fun q => kf q p e s m args below meth c H locs ls hX hS hW hL)
theorem zt_icmp_ge {G : ZG} {d : Nat} {M : ZM} {pc pc' tgt : Nat} {L S : List ZV} {h : ZH} {Q : Option ZV → ZH → Prop} {x y : Int32} {off : Int} (hd : zB M.2.1 pc pc' tgt (.if_icmp .ge off) off) (kt : y ≤ x → zT G d M tgt L S h Q) (kf : ¬ y ≤ x → zT G d M pc' L S h Q) : zT G d M pc L (zi y :: zi x :: S) h Q := by
  obtain ⟨hd, rfl, ht⟩ := hd
  intro p e s m args below meth c H locs ls hX hS hW hL
  obtain ⟨hx, hb, hml, hr, hts, hown, hlk, hK, hSt⟩ := id hX
  exact lv_icmp_ge hx hb hd ht (fun q => kt q p e s m args below meth c H locs ls hX hS hW hL) (fun q => kf q p e s m args below meth c H locs ls hX hS hW hL)
theorem zt_if_ge {G : ZG} {d : Nat} {M : ZM} {pc pc' tgt : Nat} {L S : List ZV} {h : ZH} {Q : Option ZV → ZH → Prop} {x : Int32} {off : Int} (hd : zB M.2.1 pc pc' tgt (.ifCond .ge off) off) (kt : 0 ≤ x → zT G d M tgt L S h Q) (kf : ¬ 0 ≤ x → zT G d M pc' L S h Q) : zT G d M pc L (zi x :: S) h Q := by
  obtain ⟨hd, rfl, ht⟩ := hd
  intro p e s m args below meth c H locs ls hX hS hW hL
  obtain ⟨hx, hb, hml, hr, hts, hown, hlk, hK, hSt⟩ := id hX
  exact lv_if_ge hx hb hd ht (fun q => kt q p e s m args below meth c H locs ls hX hS hW hL) (fun q => kf q p e s m args below meth c H locs ls hX hS hW hL)
theorem zt_icmp_gt {G : ZG} {d : Nat} {M : ZM} {pc pc' tgt : Nat} {L S : List ZV} {h : ZH} {Q : Option ZV → ZH → Prop} {x y : Int32} {off : Int} (hd : zB M.2.1 pc pc' tgt (.if_icmp .gt off) off) (kt : y < x → zT G d M tgt L S h Q) (kf : ¬ y < x → zT G d M pc' L S h Q) : zT G d M pc L (zi y :: zi x :: S) h Q := by
  obtain ⟨hd, rfl, ht⟩ := hd
  intro p e s m args below meth c H locs ls hX hS hW hL
  obtain ⟨hx, hb, hml, hr, hts, hown, hlk, hK, hSt⟩ := id hX
  exact lv_icmp_gt hx hb hd ht (fun q => kt q p e s m args below meth c H locs ls hX hS hW hL) (fun q => kf q p e s m args below meth c H locs ls hX hS hW hL)
theorem zt_if_gt {G : ZG} {d : Nat} {M : ZM} {pc pc' tgt : Nat} {L S : List ZV} {h : ZH} {Q : Option ZV → ZH → Prop} {x : Int32} {off : Int} (hd : zB M.2.1 pc pc' tgt (.ifCond .gt off) off) (kt : 0 < x → zT G d M tgt L S h Q) (kf : ¬ 0 < x → zT G d M pc' L S h Q) : zT G d M pc L (zi x :: S) h Q := by
  obtain ⟨hd, rfl, ht⟩ := hd
  intro p e s m args below meth c H locs ls hX hS hW hL
  obtain ⟨hx, hb, hml, hr, hts, hown, hlk, hK, hSt⟩ := id hX
  exact lv_if_gt hx hb hd ht (fun q => kt q p e s m args below meth c H locs ls hX hS hW hL) (fun q => kf q p e s m args below meth c H locs ls hX hS hW hL)
theorem zt_icmp_le {G : ZG} {d : Nat} {M : ZM} {pc pc' tgt : Nat} {L S : List ZV} {h : ZH} {Q : Option ZV → ZH → Prop} {x y : Int32} {off : Int} (hd : zB M.2.1 pc pc' tgt (.if_icmp .le off) off) (kt : x ≤ y → zT G d M tgt L S h Q) (kf : ¬ x ≤ y → zT G d M pc' L S h Q) : zT G d M pc L (zi y :: zi x :: S) h Q := by
  obtain ⟨hd, rfl, ht⟩ := hd
  intro p e s m args below meth c H locs ls hX hS hW hL
  obtain ⟨hx, hb, hml, hr, hts, hown, hlk, hK, hSt⟩ := id hX
  exact lv_icmp_le hx hb hd ht (fun q => kt q p e s m args below meth c H locs ls hX hS hW hL) (fun q => kf q p e s m args below meth c H locs ls hX hS hW hL)
theorem zt_if_le {G : ZG} {d : Nat} {M : ZM} {pc pc' tgt : Nat} {L S : List ZV} {h : ZH} {Q : Option ZV → ZH → Prop} {x : Int32} {off : Int} (hd : zB M.2.1 pc pc' tgt (.ifCond .le off) off) (kt : x ≤ 0 → zT G d M tgt L S h Q) (kf : ¬ x ≤ 0 → zT G d M pc' L S h Q) : zT G d M pc L (zi x :: S) h Q := by
  obtain ⟨hd, rfl, ht⟩ := hd
  intro p e s m args below meth c H locs ls hX hS hW hL
  obtain ⟨hx, hb, hml, hr, hts, hown, hlk, hK, hSt⟩ := id hX
  exact lv_if_le hx hb hd ht (fun q => kt q p e s m args below meth c H locs ls hX hS hW hL) (fun q => kf q p e s m args below meth c H locs ls hX hS hW hL)
theorem zt_goto {G : ZG} {d : Nat} {M : ZM} {pc pc' tgt : Nat} {L S : List ZV} {h : ZH} {Q : Option ZV → ZH → Prop} {off : Int} (hd : zB M.2.1 pc pc' tgt (.goto off) off) (k : zT G d M tgt L S h Q) : zT G d M pc L S h Q := by
  obtain ⟨hd, rfl, ht⟩ := hd
  intro p e s m args below meth c H locs ls hX hS hW hL
  obtain ⟨hx, hb, hml, hr, hts, hown, hlk, hK, hSt⟩ := id hX
  exact lv_goto hx hb hd ht (k p e s m args below meth c H locs ls hX hS hW hL)
