/-! ===== loads and stores at places that are written numbers ===== -/
theorem zt_ialdc {G : ZG} {d : Nat} {M : ZM} {pc pc' : Nat} {L S : List ZV} {h : ZH} {Q : Option ZV → ZH → Prop} {k i n : Nat} {j : Int32} (jn : Nat) (hjn : j.toNatClampNeg = jn) (hd : zD M.2.1 pc pc' .iaload 1) (hk : zkd k i = .inr (0, n)) (hi : i < zcnt k) (hj : vp_in j n) (kk : zT G d M pc' L (zi (h.1 k i jn) :: S) h Q) : zT G d M pc L (zi j :: zr k i :: S) h Q := by
  subst hjn
  exact zt_iald hd hk hi hj kk
theorem zt_laldc {G : ZG} {d : Nat} {M : ZM} {pc pc' : Nat} {L S : List ZV} {h : ZH} {Q : Option ZV → ZH → Prop} {k i n : Nat} {j : Int32} (jn : Nat) (hjn : j.toNatClampNeg = jn) (hd : zD M.2.1 pc pc' .laload 1) (hk : zkd k i = .inr (1, n)) (hi : i < zcnt k) (hj : vp_in j n) (kk : zT G d M pc' L (zl (h.2 k i jn) :: S) h Q) : zT G d M pc L (zi j :: zr k i :: S) h Q := by
  subst hjn
  exact zt_lald hd hk hi hj kk
theorem zt_zaldc {G : ZG} {d : Nat} {M : ZM} {pc pc' : Nat} {L S : List ZV} {h : ZH} {Q : Option ZV → ZH → Prop} {k i n : Nat} {j : Int32} (jn : Nat) (hjn : j.toNatClampNeg = jn) (hd : zD M.2.1 pc pc' .baload 1) (hk : zkd k i = .inr (2, n)) (hi : i < zcnt k) (hj : vp_in j n) (kk : zT G d M pc' L (zi (h.1 k i jn) :: S) h Q) : zT G d M pc L (zi j :: zr k i :: S) h Q := by
  subst hjn
  exact zt_zald hd hk hi hj kk
theorem zt_iastc {G : ZG} {d : Nat} {M : ZM} {pc pc' : Nat} {L S : List ZV} {h : ZH} {Q : Option ZV → ZH → Prop} {k i n : Nat} {j v : Int32} (jn : Nat) (hjn : j.toNatClampNeg = jn) (hd : zD M.2.1 pc pc' .iastore 1) (hk : zkd k i = .inr (0, n)) (hi : i < zcnt k) (hj : vp_in j n) (kk : zT G d M pc' L S (zs1 h k i jn v) Q) : zT G d M pc L (zi v :: zi j :: zr k i :: S) h Q := by
  subst hjn
  exact zt_iast hd hk hi hj kk
