/-! ===== arraycopy, switches ===== -/
def zsR (h : ZH) (k i : Nat) (f : Nat → Int32) : ZH := (fun k' i' j' => if k' = k ∧ i' = i then f j' else h.1 k' i' j', h.2)
theorem zsR_row (h : ZH) (k i : Nat) (f : Nat → Int32) : (zsR h k i f).1 k i = f := by
  funext q
  simp [zsR]
theorem zE_oR (G : ZG) (h : ZH) {k i : Nat} (f : Nat → Int32) (k' i' : Nat) (hn : ¬ (k' = k ∧ i' = i)) : zE G (zsR h k i f) k' i' = zE G h k' i' := by
  unfold zE
  have : (zsR h k i f).1 k' i' = h.1 k' i' := by
    funext j'
    show (if k' = k ∧ i' = i then f j' else h.1 k' i' j') = _
    rw [if_neg hn]
  rw [this]
  rfl
def zAC (own : String) (index : Nat) : Prop := Cond.methodLink own index arraycopyName ∈ zall ∧ Cond.native arraycopyName ∈ zall ∧ Cond.static arraycopyName ∈ zall ∧ Cond.initialized "java/lang/System" ∈ zall
theorem zt_copy {G : ZG} {d : Nat} {M : ZM} {pc pc' : Nat} {L S : List ZV} {h : ZH} {Q : Option ZV → ZH → Prop} {k0 i0 k1 i1 n0 n1 index : Nat} {sp dp n : Int32} (hd : zD M.2.1 pc pc' (.invokestatic index) 3) (ha : zAC M.1.cls index) (hk0 : zkd k0 i0 = .inr (0, n0)) (hk1 : zkd k1 i1 = .inr (0, n1)) (hi0 : i0 < zcnt k0) (hi1 : i1 < zcnt k1) (hS4 : S.length ≤ 2)
    (h1 : ¬ sp < 0) (h2 : ¬ dp < 0) (h3 : ¬ n < 0) (h4 : sp.toNatClampNeg + n.toNatClampNeg ≤ n0) (h5 : dp.toNatClampNeg + n.toNatClampNeg ≤ n1)
    (kk : zT G (d + 1) M pc' L S (zsR h k1 i1 (va_cpy (h.1 k0 i0) (h.1 k1 i1) sp.toNatClampNeg dp.toNatClampNeg n.toNatClampNeg)) Q) : zT G (d + 1) M pc L (zi n :: zi dp :: zr k1 i1 :: zi sp :: zr k0 i0 :: S) h Q := by
  obtain ⟨hd, rfl⟩ := hd
  intro p e s m args below meth c H locs ls hX hS hW hL
  obtain ⟨hx, hb, hml, hr, hts, hown, hlk, hK, hSt⟩ := id hX
  obtain ⟨w1, w2, w3, w4⟩ := ha
  obtain ⟨q0, -, hq0⟩ := zL_at G h hi0
  obtain ⟨q1, hp1, hq1⟩ := zL_at G h hi1
  rw [zE_int G h hk0] at hq0
  rw [zE_int G h hk1] at hq1
  have hset := zL_set G (h := h) (h' := zsR h k1 i1 (va_cpy (h.1 k0 i0) (h.1 k1 i1) sp.toNatClampNeg dp.toNatClampNeg n.toNatClampNeg)) hp1 (e := .inl (G.2.2.1 0, n1, .inl (va_cpy (h.1 k0 i0) (h.1 k1 i1) sp.toNatClampNeg dp.toNatClampNeg n.toNatClampNeg))) (by rw [zE_int G _ hk1, zsR_row]) (fun k' i' hn => zE_oR G h _ k' i' hn)
  refine va_copyi hx hb (hml.trans hL.1.symm) hown (hts _ w1) (hts _ w2) (hts _ w3) (hts _ w4) hK.1 hW (zD_of G h hK.2.2) hS q0 q1 0 0 hq0 hq1 rfl rfl rfl h1 h2 h3 h4 h5 (fun _ _ => rfl) (by show 1 ≤ d + 1; omega) ?_ hd ?_
  · have h6 := zc_sum G S (by omega)
    have h7 : nativeFrameWords "java/lang/System" "arraycopy" 5 ≤ 29 := by decide +kernel
    show _ ≤ 48 * (d + 1)
    omega
  · intro H1 locs1 g1 _ g3
    rw [hset] at g1
    exact kk p e s m args below meth c H1 locs1 ls hX g3 g1 hL
theorem zt_lookup {G : ZG} {d : Nat} {M : ZM} {pc tgt len : Nat} {L S : List ZV} {h : ZH} {Q : Option ZV → ZH → Prop} {dflt off : Int} {ps : Array (Int × Int)} {x : Int32} (hd : decode M.2.1 pc = .ok (.lookupswitch dflt ps, len)) (hp : (ps.toList.zip (ps.toList.drop 1)).all (fun (a, next) => a.1 < next.1) = true) (ho : Op.lookupswitch.offset ps.toList dflt x.toInt = off) (ht : (pc : Int) + off = (tgt : Int))
    (kk : zT G d M tgt L S h Q) : zT G d M pc L (zi x :: S) h Q := by
  intro p e s m args below meth c H locs ls hX hS hW hL
  obtain ⟨hx, hb, hml, hr, hts, hown, hlk, hK, hSt⟩ := id hX
  exact lv_lookup hx hb hd hp ho ht (kk p e s m args below meth c H locs ls hX hS hW hL)
theorem zt_tabOut {G : ZG} {d : Nat} {M : ZM} {pc tgt len : Nat} {L S : List ZV} {h : ZH} {Q : Option ZV → ZH → Prop} {dflt lo hi : Int} {offs : Array Int} {x : Int32} (hd : decode M.2.1 pc = .ok (.tableswitch dflt lo hi offs, len)) (hh : x.toInt < lo ∨ hi < x.toInt) (ht : (pc : Int) + dflt = (tgt : Int))
    (kk : zT G d M tgt L S h Q) : zT G d M pc L (zi x :: S) h Q := by
  intro p e s m args below meth c H locs ls hX hS hW hL
  obtain ⟨hx, hb, hml, hr, hts, hown, hlk, hK, hSt⟩ := id hX
  exact lv_tableOut hx hb hd hh ht (kk p e s m args below meth c H locs ls hX hS hW hL)
theorem zt_tabIn {G : ZG} {d : Nat} {M : ZM} {pc tgt len : Nat} {L S : List ZV} {h : ZH} {Q : Option ZV → ZH → Prop} {dflt lo hi off : Int} {offs : Array Int} {x : Int32} (hd : decode M.2.1 pc = .ok (.tableswitch dflt lo hi offs, len)) (h1 : ¬ x.toInt < lo) (h2 : ¬ hi < x.toInt) (ho : offs[(x.toInt - lo).toNat]? = some off) (ht : (pc : Int) + off = (tgt : Int))
    (kk : zT G d M tgt L S h Q) : zT G d M pc L (zi x :: S) h Q := by
  intro p e s m args below meth c H locs ls hX hS hW hL
  obtain ⟨hx, hb, hml, hr, hts, hown, hlk, hK, hSt⟩ := id hX
  exact lv_tableIn hx hb hd h1 h2 ho ht (kk p e s m args below meth c H locs ls hX hS hW hL)
