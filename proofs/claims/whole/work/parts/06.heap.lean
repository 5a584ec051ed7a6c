/-! ===== the rules of zT: fields, arrays, statics ===== -/
/-- a field site: own's entry 'index' is field j (of N) of the class at place ci -/
def zFS (own : String) (index ci N j : Nat) : Prop := ∃ (C : String) (T : u_T), vwCl[ci]? = some (C, T, N) ∧ j < N ∧ (∀ w ∈ u_ws C T N, w ∈ zall) ∧ (Cond.fieldLink own index (T j).1 (T j).2.1 (T j).2.2.1 ∈ zall ∨ ∃ host, Cond.fieldLinkNest own index (T j).1 (T j).2.1 (T j).2.2.1 host ∈ znw)
/-- what a store into it wants more -/
def zPS (ci N j : Nat) (ty : FieldType) : Prop := ∃ (C : String) (T : u_T) (ty0 : Nat → FieldType), vwCl[ci]? = some (C, T, N) ∧ (∀ k, k < N → parseFieldDescriptor (T k).2.2.1 = some (ty0 k)) ∧ (∀ a, a < N → ∀ b, b < N → a ≠ b → (T a).2.1 ≠ (T b).2.1) ∧ (T j).2.2.2 = false ∧ parseFieldDescriptor (T j).2.2.1 = some ty
theorem zmap_get (G : ZG) (h : ZH) {k i N j : Nat} (hj : j < N) : ((List.range N).map (fun j => zc G (zf h k i j)))[j]? = some (zc G (zf h k i j)) := by
  rw [List.getElem?_map, List.getElem?_range hj]
  rfl
theorem zt_get {G : ZG} {d : Nat} {M : ZM} {pc pc' : Nat} {L S : List ZV} {h : ZH} {Q : Option ZV → ZH → Prop} {k i ci N j index : Nat} {v : ZV} (hd : zD M.2.1 pc pc' (.getfield index) 3) (hf : zFS M.1.cls index ci N j) (hk : zkd k i = .inl (ci, N)) (hi : i < zcnt k) (hv : zf h k i j = v) (kk : zT G d M pc' L (v :: S) h Q) : zT G d M pc L (zr k i :: S) h Q := by
  obtain ⟨hd, rfl⟩ := hd
  intro p e s m args below meth c H locs ls hX hS hW hL
  obtain ⟨hx, hb, hml, hr, hts, hown, hlk, hK, hSt⟩ := id hX
  obtain ⟨C, T, hc, hjN, hin, hlink⟩ := hf
  obtain ⟨q, -, hq⟩ := zL_at G h hi
  rw [zE_obj G h hk] at hq
  have hfs := zmap_get G h (k := k) (i := i) hjN
  rw [hv] at hfs
  have k2 := kk p e s m args below meth c H locs ls hX hS hW hL
  rcases hlink with hl | ⟨host, hl⟩
  · exact va_get hx hb hts hin hown hK.1 hW q hq hc j hjN (hts _ hl) (fun _ z => z) hfs hd k2
  · exact va_getN hx hb hts hin hown hK.1 hW q hq hc j hjN (va_Nw.use (znw_on hl) (hK.2.1 _ hl)) (fun _ z => z) hfs hd k2
theorem zt_putg {G : ZG} {d : Nat} {M : ZM} {pc pc' : Nat} {L S : List ZV} {h : ZH} {Q : Option ZV → ZH → Prop} {k i ci N j index : Nat} {v : Int32} {ty : FieldType} (hd : zD M.2.1 pc pc' (.putfield index) 3) (hf : zFS M.1.cls index ci N j) (hp : zPS ci N j ty) (hk : zkd k i = .inl (ci, N)) (hi : i < zcnt k) (hj : zrf k j i = none) (hn : narrow ty (.int v) = .int v) (hft : fits ty (.int v) = true) (kk : zT G d M pc' L S (zs1 h k i j v) Q) : zT G d M pc L (zi v :: zr k i :: S) h Q := by
  obtain ⟨hd, rfl⟩ := hd
  intro p e s m args below meth c H locs ls hX hS hW hL
  obtain ⟨hx, hb, hml, hr, hts, hown, hlk, hK, hSt⟩ := id hX
  obtain ⟨C, T, hc, hjN, hin, hlink⟩ := hf
  obtain ⟨C2, T2, ty0, hc2, hty, hnm, hfin, hdd⟩ := hp
  cases hc.symm.trans hc2
  obtain ⟨q, hq0, hq⟩ := zL_at G h hi
  rw [zE_obj G h hk] at hq
  have hset := zL_set G (h := h) (h' := zs1 h k i j v) hq0 (zE_putobj G h v hk hj hjN) (fun k' i' hn => zE_o1 G h v k' i' hn)
  have k2 : ∀ (H1 : Heap) (locs1 : List Loc), va_P G.2.1 vwCl ((zL G h).set q (G.2.2.2 k i, .inr (ci, ((List.range N).map (fun j => zc G (zf h k i j))).set j (.int v)))) H1 → va_D (zA G) ((zL G h).set q (G.2.2.2 k i, .inr (ci, ((List.range N).map (fun j => zc G (zf h k i j))).set j (.int v)))) → va_S (zA G) s.heap H1 locs1 → W p G.1 e (zrm d) s m args below meth c H1 locs1 0 0 (MQ below (zQ G Q) args s 0 0 (zA G)) (F0 m (pc + 3) ls (S.map (zc G))) := by
    intro H1 locs1 h1 _ h3
    rw [hset] at h1
    exact kk p e s m args below meth c H1 locs1 ls hX h3 h1 hL
  have hlen : j < ((List.range N).map (fun j => zc G (zf h k i j))).length := by rw [List.length_map, List.length_range]; exact hjN
  rcases hlink with hl | ⟨host, hl⟩
  · exact va_put hx hb hts hin ty0 hty hnm hown hK.1 hW (zD_of G h hK.2.2) hS q hq hc j hjN (hts _ hl) (fun _ z => z) hfin hdd hn hft hlen hd k2
  · exact va_putN hx hb hts hin ty0 hty hnm hown hK.1 hW (zD_of G h hK.2.2) hS q hq hc j hjN (va_Nw.use (znw_on hl) (hK.2.1 _ hl)) (fun _ z => z) hfin hdd hn hft hlen hd k2
theorem zt_put {G : ZG} {d : Nat} {M : ZM} {pc pc' : Nat} {L S : List ZV} {h : ZH} {Q : Option ZV → ZH → Prop} {k i ci N j index : Nat} {v : Int32} (hd : zD M.2.1 pc pc' (.putfield index) 3) (hf : zFS M.1.cls index ci N j) (hp : zPS ci N j .int) (hk : zkd k i = .inl (ci, N)) (hi : i < zcnt k) (hj : zrf k j i = none) (kk : zT G d M pc' L S (zs1 h k i j v) Q) : zT G d M pc L (zi v :: zr k i :: S) h Q := zt_putg hd hf hp hk hi hj rfl rfl kk
theorem zt_putz {G : ZG} {d : Nat} {M : ZM} {pc pc' : Nat} {L S : List ZV} {h : ZH} {Q : Option ZV → ZH → Prop} {k i ci N j index : Nat} {v : Int32} (hd : zD M.2.1 pc pc' (.putfield index) 3) (hf : zFS M.1.cls index ci N j) (hp : zPS ci N j .boolean) (hk : zkd k i = .inl (ci, N)) (hi : i < zcnt k) (hj : zrf k j i = none) (hz : v = 0 ∨ v = 1) (kk : zT G d M pc' L S (zs1 h k i j v) Q) : zT G d M pc L (zi v :: zr k i :: S) h Q := zt_putg hd hf hp hk hi hj (by rcases hz with rfl | rfl <;> rfl) (by rcases hz with rfl | rfl <;> rfl) kk
theorem zt_iald {G : ZG} {d : Nat} {M : ZM} {pc pc' : Nat} {L S : List ZV} {h : ZH} {Q : Option ZV → ZH → Prop} {k i n : Nat} {j : Int32} (hd : zD M.2.1 pc pc' .iaload 1) (hk : zkd k i = .inr (0, n)) (hi : i < zcnt k) (hj : vp_in j n) (kk : zT G d M pc' L (zi (h.1 k i j.toNatClampNeg) :: S) h Q) : zT G d M pc L (zi j :: zr k i :: S) h Q := by
  obtain ⟨hd, rfl⟩ := hd
  intro p e s m args below meth c H locs ls hX hS hW hL
  obtain ⟨hx, hb, hml, hr, hts, hown, hlk, hK, hSt⟩ := id hX
  obtain ⟨q, -, hq⟩ := zL_at G h hi
  rw [zE_int G h hk] at hq
  exact va_iald hx hb hK.1 hW q 0 hq rfl hj hd (kk p e s m args below meth c H locs ls hX hS hW hL)
theorem zt_lald {G : ZG} {d : Nat} {M : ZM} {pc pc' : Nat} {L S : List ZV} {h : ZH} {Q : Option ZV → ZH → Prop} {k i n : Nat} {j : Int32} (hd : zD M.2.1 pc pc' .laload 1) (hk : zkd k i = .inr (1, n)) (hi : i < zcnt k) (hj : vp_in j n) (kk : zT G d M pc' L (zl (h.2 k i j.toNatClampNeg) :: S) h Q) : zT G d M pc L (zi j :: zr k i :: S) h Q := by
  obtain ⟨hd, rfl⟩ := hd
  intro p e s m args below meth c H locs ls hX hS hW hL
  obtain ⟨hx, hb, hml, hr, hts, hown, hlk, hK, hSt⟩ := id hX
  obtain ⟨q, -, hq⟩ := zL_at G h hi
  rw [zE_long G h hk] at hq
  exact va_lald hx hb hK.1 hW q 1 hq rfl hj hd (kk p e s m args below meth c H locs ls hX hS hW hL)
theorem zt_zald {G : ZG} {d : Nat} {M : ZM} {pc pc' : Nat} {L S : List ZV} {h : ZH} {Q : Option ZV → ZH → Prop} {k i n : Nat} {j : Int32} (hd : zD M.2.1 pc pc' .baload 1) (hk : zkd k i = .inr (2, n)) (hi : i < zcnt k) (hj : vp_in j n) (kk : zT G d M pc' L (zi (h.1 k i j.toNatClampNeg) :: S) h Q) : zT G d M pc L (zi j :: zr k i :: S) h Q := by
  obtain ⟨hd, rfl⟩ := hd
  intro p e s m args below meth c H locs ls hX hS hW hL
  obtain ⟨hx, hb, hml, hr, hts, hown, hlk, hK, hSt⟩ := id hX
  obtain ⟨q, -, hq⟩ := zL_at G h hi
  rw [zE_bool G h hk] at hq
  exact va_zald hx hb hK.1 hW q 2 hq rfl hj hd (kk p e s m args below meth c H locs ls hX hS hW hL)
theorem zt_aaldS {G : ZG} {d : Nat} {M : ZM} {pc pc' : Nat} {L S : List ZV} {h : ZH} {Q : Option ZV → ZH → Prop} {j : Int32} (hd : zD M.2.1 pc pc' .aaload 1) (hj : vp_in j 8) (kk : zT G d M pc' L (zr 4 j.toNatClampNeg :: S) h Q) : zT G d M pc L (zi j :: zr 21 0 :: S) h Q := by
  obtain ⟨hd, rfl⟩ := hd
  intro p e s m args below meth c H locs ls hX hS hW hL
  obtain ⟨hx, hb, hml, hr, hts, hown, hlk, hK, hSt⟩ := id hX
  obtain ⟨q, -, hq⟩ := zL_at G h (k := 21) (i := 0) (by decide)
  rw [zE_ref G h (t := 0) (n := 8) rfl] at hq
  exact va_aldq hx hb hK.1 hW q 3 hq rfl hj hd (kk p e s m args below meth c H locs ls hX hS hW hL)
theorem zt_aaldH {G : ZG} {d : Nat} {M : ZM} {pc pc' : Nat} {L S : List ZV} {h : ZH} {Q : Option ZV → ZH → Prop} {j : Int32} (hd : zD M.2.1 pc pc' .aaload 1) (hj : vp_in j 8) (kk : zT G d M pc' L (zr 3 j.toNatClampNeg :: S) h Q) : zT G d M pc L (zi j :: zr 22 0 :: S) h Q := by
  obtain ⟨hd, rfl⟩ := hd
  intro p e s m args below meth c H locs ls hX hS hW hL
  obtain ⟨hx, hb, hml, hr, hts, hown, hlk, hK, hSt⟩ := id hX
  obtain ⟨q, -, hq⟩ := zL_at G h (k := 22) (i := 0) (by decide)
  rw [zE_ref G h (t := 1) (n := 8) rfl] at hq
  exact va_aldq hx hb hK.1 hW q 4 hq rfl hj hd (kk p e s m args below meth c H locs ls hX hS hW hL)
theorem zt_iast {G : ZG} {d : Nat} {M : ZM} {pc pc' : Nat} {L S : List ZV} {h : ZH} {Q : Option ZV → ZH → Prop} {k i n : Nat} {j : Int32} {v : Int32} (hd : zD M.2.1 pc pc' .iastore 1) (hk : zkd k i = .inr (0, n)) (hi : i < zcnt k) (hj : vp_in j n) (kk : zT G d M pc' L S (zs1 h k i j.toNatClampNeg v) Q) : zT G d M pc L (zi v :: zi j :: zr k i :: S) h Q := by
  obtain ⟨hd, rfl⟩ := hd
  intro p e s m args below meth c H locs ls hX hS hW hL
  obtain ⟨hx, hb, hml, hr, hts, hown, hlk, hK, hSt⟩ := id hX
  obtain ⟨q, hq0, hq⟩ := zL_at G h hi
  rw [zE_int G h hk] at hq
  have hset := zL_set G (h := h) (h' := zs1 h k i j.toNatClampNeg v) hq0 (e := .inl (G.2.2.1 0, n, .inl (upd (h.1 k i) j.toNatClampNeg v))) (by rw [zE_int G _ hk, zs1_row]) (fun k' i' hn => zE_o1 G h v k' i' hn)
  refine va_iast hx hb hK.1 hW (zD_of G h hK.2.2) hS q 0 hq rfl hj hd ?_
  intro H1 locs1 h1 _ h3
  rw [hset] at h1
  exact kk p e s m args below meth c H1 locs1 ls hX h3 h1 hL
theorem zt_last {G : ZG} {d : Nat} {M : ZM} {pc pc' : Nat} {L S : List ZV} {h : ZH} {Q : Option ZV → ZH → Prop} {k i n : Nat} {j : Int32} {v : Int64} (hd : zD M.2.1 pc pc' .lastore 1) (hk : zkd k i = .inr (1, n)) (hi : i < zcnt k) (hj : vp_in j n) (kk : zT G d M pc' L S (zs2 h k i j.toNatClampNeg v) Q) : zT G d M pc L (zl v :: zi j :: zr k i :: S) h Q := by
  obtain ⟨hd, rfl⟩ := hd
  intro p e s m args below meth c H locs ls hX hS hW hL
  obtain ⟨hx, hb, hml, hr, hts, hown, hlk, hK, hSt⟩ := id hX
  obtain ⟨q, hq0, hq⟩ := zL_at G h hi
  rw [zE_long G h hk] at hq
  have hset := zL_set G (h := h) (h' := zs2 h k i j.toNatClampNeg v) hq0 (e := .inl (G.2.2.1 1, n, .inr (.inl (vp_updL (h.2 k i) j.toNatClampNeg v)))) (by rw [zE_long G _ hk, zs2_row]) (fun k' i' hn => zE_o2 G h v k' i' hn)
  refine va_last hx hb hK.1 hW (zD_of G h hK.2.2) hS q 1 hq rfl hj hd ?_
  intro H1 locs1 h1 _ h3
  rw [hset] at h1
  exact kk p e s m args below meth c H1 locs1 ls hX h3 h1 hL
theorem zt_zast {G : ZG} {d : Nat} {M : ZM} {pc pc' : Nat} {L S : List ZV} {h : ZH} {Q : Option ZV → ZH → Prop} {k i n : Nat} {j : Int32} {v : Int32} (hd : zD M.2.1 pc pc' .bastore 1) (hk : zkd k i = .inr (2, n)) (hi : i < zcnt k) (hj : vp_in j n) (kk : zT G d M pc' L S (zs1 h k i j.toNatClampNeg (vp_nar .boolean v)) Q) : zT G d M pc L (zi v :: zi j :: zr k i :: S) h Q := by
  obtain ⟨hd, rfl⟩ := hd
  intro p e s m args below meth c H locs ls hX hS hW hL
  obtain ⟨hx, hb, hml, hr, hts, hown, hlk, hK, hSt⟩ := id hX
  obtain ⟨q, hq0, hq⟩ := zL_at G h hi
  rw [zE_bool G h hk] at hq
  have hset := zL_set G (h := h) (h' := zs1 h k i j.toNatClampNeg (vp_nar .boolean v)) hq0 (e := .inl (G.2.2.1 2, n, .inl (upd (h.1 k i) j.toNatClampNeg (vp_nar .boolean v)))) (by rw [zE_bool G _ hk, zs1_row]) (fun k' i' hn => zE_o1 G h (vp_nar .boolean v) k' i' hn)
  refine va_zast hx hb hK.1 hW (zD_of G h hK.2.2) hS q 2 hq rfl hj hd ?_
  intro H1 locs1 h1 _ h3
  rw [hset] at h1
  exact kk p e s m args below meth c H1 locs1 ls hX h3 h1 hL
theorem zt_alen {G : ZG} {d : Nat} {M : ZM} {pc pc' : Nat} {L S : List ZV} {h : ZH} {Q : Option ZV → ZH → Prop} {k i t n : Nat} {v : Int32} (hd : zD M.2.1 pc pc' .arraylength 1) (hk : zkd k i = .inr (t, n)) (ht : t < 3) (hi : i < zcnt k) (hv : Int32.ofNat n = v) (kk : zT G d M pc' L (zi v :: S) h Q) : zT G d M pc L (zr k i :: S) h Q := by
  obtain ⟨hd, rfl⟩ := hd
  intro p e s m args below meth c H locs ls hX hS hW hL
  obtain ⟨hx, hb, hml, hr, hts, hown, hlk, hK, hSt⟩ := id hX
  obtain ⟨q, -, hq⟩ := zL_at G h hi
  have k2 := kk p e s m args below meth c H locs ls hX hS hW hL
  rcases (show t = 0 ∨ t = 1 ∨ t = 2 by omega) with rfl | rfl | rfl
  · rw [zE_int G h hk] at hq
    exact va_alen hx hb hK.1 hW q 0 hq rfl hv hd k2
  · rw [zE_long G h hk] at hq
    exact va_alen hx hb hK.1 hW q 1 hq rfl hv hd k2
  · rw [zE_bool G h hk] at hq
    exact va_alen hx hb hK.1 hW q 2 hq rfl hv hd k2
theorem zt_bes {G : ZG} {d : Nat} {M : ZM} {pc pc' : Nat} {L S : List ZV} {h : ZH} {Q : Option ZV → ZH → Prop} {index : Nat} (hd : zD M.2.1 pc pc' (.getstatic index) 3) (hl : Cond.fieldLinkNest M.1.cls index "CornerstoneSought" "BESIDE" "[I" "CornerstoneSought" ∈ znw) (kk : zT G d M pc' L (zr 26 0 :: S) h Q) : zT G d M pc L S h Q := by
  obtain ⟨hd, rfl⟩ := hd
  intro p e s m args below meth c H locs ls hX hS hW hL
  obtain ⟨hx, hb, hml, hr, hts, hown, hlk, hK, hSt⟩ := id hX
  exact va_getsN hx hb hSt.1 hS hown (va_Nw.use (znw_on hl) (hK.2.1 _ hl)) (fun _ z => z) hd (kk p e s m args below meth c H locs ls hX hS hW hL)
theorem zt_besld {G : ZG} {d : Nat} {M : ZM} {pc pc' : Nat} {L S : List ZV} {h : ZH} {Q : Option ZV → ZH → Prop} {j : Int32} (hd : zD M.2.1 pc pc' .iaload 1) (hj : vp_in j 12) (kk : zT G d M pc' L (zi (zbes j.toNatClampNeg) :: S) h Q) : zT G d M pc L (zi j :: zr 26 0 :: S) h Q := by
  obtain ⟨hd, rfl⟩ := hd
  intro p e s m args below meth c H locs ls hX hS hW hL
  obtain ⟨hx, hb, hml, hr, hts, hown, hlk, hK, hSt⟩ := id hX
  exact va_ti hx hb hSt.2 hS hj rfl hd (kk p e s m args below meth c H locs ls hX hS hW hL)
/-! ===== returns ===== -/
theorem zQ_end {G : ZG} {Q : Option ZV → ZH → Prop} {r : Option ZV} {h : ZH} {s : State} {H : Heap} {locs : List Loc} {args : Array Value} (hq : Q r h) (hS : va_S (zA G) s.heap H locs) (hW : zW G h H) : ∀ t : State, t.heap = H → s.WarmedH t.vm → zQ G Q args s (.returned (r.map (zc G))) t :=
  fun t ht _ => ⟨⟨r, h, rfl, hq, by rw [ht]; exact hW⟩, hS.F ht⟩
theorem zt_iret {G : ZG} {d : Nat} {M : ZM} {pc pc' : Nat} {L : List ZV} {h : ZH} {Q : Option ZV → ZH → Prop} {v : Int32} (hd : zD M.2.1 pc pc' .ireturn 1) (hr0 : M.2.2.2 = some .int) (hq : Q (some (zi v)) h) : zT G d M pc L [zi v] h Q := by
  obtain ⟨hd, -⟩ := hd
  intro p e s m args below meth c H locs ls hX hS hW hL
  obtain ⟨hx, hb, hml, hr, hts, hown, hlk, hK, hSt⟩ := id hX
  exact W.iret hx hb (hr.trans hr0) (zQ_end hq hS hW) hS.2.2 hd hlk
theorem zt_zret {G : ZG} {d : Nat} {M : ZM} {pc pc' : Nat} {L : List ZV} {h : ZH} {Q : Option ZV → ZH → Prop} {v : Int32} (hd : zD M.2.1 pc pc' .ireturn 1) (hr0 : M.2.2.2 = some .boolean) (hz : v = 0 ∨ v = 1) (hq : Q (some (zi v)) h) : zT G d M pc L [zi v] h Q := by
  obtain ⟨hd, -⟩ := hd
  intro p e s m args below meth c H locs ls hX hS hW hL
  obtain ⟨hx, hb, hml, hr, hts, hown, hlk, hK, hSt⟩ := id hX
  exact W.zret hx hb (hr.trans hr0) (by rcases hz with rfl | rfl <;> rfl) (zQ_end hq hS hW) hS.2.2 hd hlk
theorem zt_vret {G : ZG} {d : Nat} {M : ZM} {pc pc' : Nat} {L : List ZV} {h : ZH} {Q : Option ZV → ZH → Prop} (hd : zD M.2.1 pc pc' .return_ 1) (hr0 : M.2.2.2 = none) (hq : Q none h) : zT G d M pc L [] h Q := by
  obtain ⟨hd, -⟩ := hd
  intro p e s m args below meth c H locs ls hX hS hW hL
  obtain ⟨hx, hb, hml, hr, hts, hown, hlk, hK, hSt⟩ := id hX
  exact W.vret hx hb (hr.trans hr0) (zQ_end hq hS hW) hS.2.2 hd hlk
theorem zt_lret {G : ZG} {d : Nat} {M : ZM} {pc pc' : Nat} {L : List ZV} {h : ZH} {Q : Option ZV → ZH → Prop} {v : Int64} (hd : zD M.2.1 pc pc' .lreturn 1) (hr0 : M.2.2.2 = some .long) (hq : Q (some (zl v)) h) : zT G d M pc L [zl v] h Q := by
  obtain ⟨hd, -⟩ := hd
  intro p e s m args below meth c H locs ls hX hS hW hL
  obtain ⟨hx, hb, hml, hr, hts, hown, hlk, hK, hSt⟩ := id hX
  exact W.lret hx hb (hr.trans hr0) (zQ_end hq hS hW) hS.2.2 hd hlk
/-! ===== calls ===== -/
theorem z_call {G : ZG} {d : Nat} {p : Program} {e : Env} {s : State} {m : MethodId} {args : Array Value} {below : List Frame} {meth : Method} {c : Code} {H : Heap} {locs : List Loc} {Z : State → Prop} {pc : Nat} {ls : Array Slot} {rest st0 : List Value} {a : Array Value} {Q1 : Option ZV → ZH → Prop}
    (hr : va_Run p G.1 e (zrm d) s m args below meth c H locs 0 0 0 0 (F0 m pc ls st0) rest (zQ G Q1 a) (zA G)) (hS : va_S (zA G) s.heap H locs)
    (kk : ∀ (r : Option ZV) (h' : ZH) (H1 : Heap) (locs1 : List Loc), Q1 r h' → zW G h' H1 → va_S (zA G) s.heap H1 locs1 → W p G.1 e (zrm d) s m args below meth c H1 locs1 0 0 Z (F0 m (pc + 3) ls ((r.map (zc G)).toList ++ rest))) : W p G.1 e (zrm d) s m args below meth c H locs 0 0 Z (F0 m pc ls st0) := by
  intro T hT X
  obtain ⟨v, st₀, t, T', L, h0, X', hL, e1, e2, ⟨⟨r, h', hv, hp, hb⟩, hz, hk⟩, st⟩ := hr T hT X
  cases hv
  rw [h0] at hz hk
  obtain ⟨t2, a1, b1⟩ := kk r h' T'.heap (locs ++ L) hp (by rw [e1]; exact hb)
    ⟨Nat.le_trans hS.1 (by rw [e1]; exact hz), fun q h1 h2 => by rw [e1, hk q (Nat.lt_of_lt_of_le h1 hS.1) h2]; exact hS.2.1 q h1 h2, fun q hq => by
      rcases List.mem_append.mp hq with h | h
      · exact hS.2.2 q h
      · exact hL q h⟩ T' rfl X'
  exact ⟨t2, st t2 a1, b1⟩
theorem z_ws (M : ZM) (hc : Cond.code M.1 M.2.1 M.2.2.1 M.2.2.2 ∈ zall) : GoodIn zall (zws M) := by
  intro w hw
  rcases List.mem_cons.mp hw with rfl | h
  · exact zall_good _ hc
  · exact zall_good _ h
theorem z_pre {G : ZG} {as : List ZV} {h : ZH} {s : State} {H : Heap} {locs : List Loc} (hK : zK G s) (hSt : zSt G s s.heap) (hS : va_S (zA G) s.heap H locs) (hW : zW G h H) : ∀ U : State, U.heap = H → s.WarmedH U.vm → zPc G as h (as.map (zc G)).toArray U := by
  intro U hU hw
  refine ⟨rfl, by rw [hU]; exact hW, zK.warm hw hK, zSt.moved hw.alike ?_⟩
  rw [hU]
  exact hSt.kept hS.2.1
/-- a site of a static call; of a call of a method by its object (own class, nest mates), of a super call; of an overridden one -/
def zSS (own : String) (index : Nat) (M : ZM) (n : Nat) : Prop := (Cond.methodLink own index M.1 ∈ zall ∧ Cond.static M.1 ∈ zall ∧ Cond.initialized M.1.cls ∈ zall ∧ Cond.code M.1 M.2.1 M.2.2.1 M.2.2.2 ∈ zall) ∧ (M.1.cls ≠ "java/lang/invoke/MethodHandle" ∧ M.1.cls ≠ "java/lang/invoke/VarHandle" ∧ (parseMethodDescriptor M.1.desc).map (fun d => d.parameters.length) = some n) ∧ M.2.2.1 ≤ 29
def zSN (own : String) (index : Nat) (M : ZM) (n : Nat) : Prop := ((∃ host, Cond.methodLinkNest own index M.1 host ∈ znw) ∧ Cond.static M.1 ∈ zall ∧ Cond.initialized M.1.cls ∈ zall ∧ Cond.code M.1 M.2.1 M.2.2.1 M.2.2.2 ∈ zall) ∧ (M.1.cls ≠ "java/lang/invoke/MethodHandle" ∧ M.1.cls ≠ "java/lang/invoke/VarHandle" ∧ (parseMethodDescriptor M.1.desc).map (fun d => d.parameters.length) = some n) ∧ M.2.2.1 ≤ 29
def zVS (own : String) (index ci : Nat) (M : ZM) (n : Nat) : Prop := (Cond.methodLink own index M.1 ∈ zall ∧ Cond.instanceMethod M.1 ∈ zall ∧ Cond.selects M.1.cls M.1 M.1 ∈ zall ∧ Cond.initialized M.1.cls ∈ zall ∧ Cond.code M.1 M.2.1 M.2.2.1 M.2.2.2 ∈ zall) ∧ (M.1.cls ≠ "java/lang/invoke/MethodHandle" ∧ M.1.cls ≠ "java/lang/invoke/VarHandle" ∧ (parseMethodDescriptor M.1.desc).map (fun d => d.parameters.length) = some n) ∧ M.2.2.1 ≤ 29 ∧ ∃ (T : u_T) (N : Nat), vwCl[ci]? = some (M.1.cls, T, N)
def zUS (own : String) (index : Nat) (M : ZM) (n : Nat) : Prop := (Cond.methodLink own index M.1 ∈ zall ∧ Cond.sameMethod M.1.cls M.1.cls M.1.name M.1.desc ∈ zall ∧ Cond.superclass own M.1.cls ∈ zall ∧ Cond.instanceMethod M.1 ∈ zall ∧ Cond.initialized M.1.cls ∈ zall ∧ Cond.code M.1 M.2.1 M.2.2.1 M.2.2.2 ∈ zall) ∧ (M.1.name ≠ "<init>" ∧ (parseMethodDescriptor M.1.desc).map (fun d => d.parameters.length) = some n) ∧ M.2.2.1 ≤ 29
/-- the site names X; on an object of class C the method M runs -/
def zOS (own : String) (index ci : Nat) (X : ZM) (M : ZM) (n : Nat) : Prop := ∃ (C : String) (T : u_T) (N : Nat), vwCl[ci]? = some (C, T, N) ∧ (Cond.methodLink own index X.1 ∈ zall ∧ Cond.sameMethod X.1.cls X.1.cls X.1.name X.1.desc ∈ zall ∧ Cond.instanceMethod X.1 ∈ zall ∧ Cond.selects C X.1 M.1 ∈ zall ∧ Cond.instanceMethod M.1 ∈ zall ∧ Cond.initialized M.1.cls ∈ zall ∧ Cond.code M.1 M.2.1 M.2.2.1 M.2.2.2 ∈ zall ∧ Cond.code X.1 X.2.1 X.2.2.1 X.2.2.2 ∈ zall) ∧ (X.1.cls ≠ "java/lang/invoke/MethodHandle" ∧ X.1.cls ≠ "java/lang/invoke/VarHandle" ∧ (parseMethodDescriptor X.1.desc).map (fun d => d.parameters.length) = some n) ∧ M.2.2.1 ≤ 29
theorem zin_of {a : Cond} {ws : List Cond} (ha : a ∈ zall) (h : GoodIn zall ws) : GoodIn zall (a :: ws) := by
  intro w hw
  rcases List.mem_cons.mp hw with rfl | h1
  · exact zall_good _ ha
  · exact h _ h1
theorem zc_sum (G : ZG) (S : List ZV) (hS : S.length ≤ 4) : ((S.map (zc G)).map fun v => v.category).sum ≤ 8 := by
  have key : ∀ (S : List ZV), ((S.map (zc G)).map fun v => v.category).sum ≤ 2 * S.length := by
    intro S
    induction S with
    | nil => simp
    | cons a S ih =>
      have : (zc G a).category ≤ 2 := by rcases lv_cat (zc G a) with h | h <;> omega
      simp only [List.map_cons, List.sum_cons, List.length_cons]
      omega
  have := key S
  omega
theorem zt_cS {G : ZG} {d : Nat} {M N : ZM} {pc pc' : Nat} {L S : List ZV} {h : ZH} {Q Q1 : Option ZV → ZH → Prop} {as : List ZV} {index n : Nat} {S0 : List ZV} (hd : zD M.2.1 pc pc' (.invokestatic index) 3) (hs : zSS M.1.cls index N n) (hn : as.length = n) (hS4 : S.length ≤ 4) (hS0 : S0 = as.reverse ++ S) (hC : zC G d N (as) h Q1) (kk : ∀ r h', Q1 r h' → zT G (d + 1) M pc' L (r.toList ++ S) h' Q) : zT G (d + 1) M pc L S0 h Q := by
  obtain ⟨hd, rfl⟩ := hd
  intro p e s m args below meth c H locs ls hX hS hW hL
  obtain ⟨hx, hb, hml, hr, hts, hown, hlk, hK, hSt⟩ := id hX
  subst hS0
  obtain ⟨⟨w1, w2, w3, w4⟩, hdsc, hmax⟩ := hs
  have cw := va_cwS (R := zrm (d + 1)) (s := s) (args := args) (own := M.1.cls) (index := index) (y := N.1) (bytes := N.2.1) (maxL := N.2.2.1) (mc := 0) (ms := 0) (ret := N.2.2.2) (Ts := zall) (ws := zws N) (rm := zrm d) n hts (zin_of w1 (zin_of w2 (zin_of w3 (z_ws N w4)))) rfl rfl rfl hdsc ⟨Nat.le_refl _, by have := hmax; show 8 + (N.2.2.1 + 11) + 48 * d ≤ 48 * (d + 1); omega⟩
  have hstk : ((as.reverse ++ S).map (zc G)) = (as.map (zc G)).reverse ++ S.map (zc G) := by
    rw [List.map_append, List.map_reverse]
  refine z_call (rest := S.map (zc G)) (va_runS (As := as.map (zc G)) ⟨hx, hb, hml, hown, hts⟩ hC cw ⟨zPc_blind G _ h, z_pre hK hSt hS hW⟩ rfl (by rw [List.length_map]; exact hn) hL.1 hstk (lv_room (zc_sum G S hS4)) hd ⟨Nat.le_refl _, Nat.le_refl _⟩) hS ?_
  intro r h' H1 locs1 hq hW1 hS1
  have k2 := kk r h' hq p e s m args below meth c H1 locs1 ls hX hS1 hW1 hL
  rw [List.map_append] at k2
  have e1 : r.toList.map (zc G) = (r.map (zc G)).toList := by cases r <;> rfl
  rw [e1] at k2
  exact k2
theorem zt_cSN {G : ZG} {d : Nat} {M N : ZM} {pc pc' : Nat} {L S : List ZV} {h : ZH} {Q Q1 : Option ZV → ZH → Prop} {as : List ZV} {index n : Nat} {S0 : List ZV} (hd : zD M.2.1 pc pc' (.invokestatic index) 3) (hs : zSN M.1.cls index N n) (hn : as.length = n) (hS4 : S.length ≤ 4) (hS0 : S0 = as.reverse ++ S) (hC : zC G d N (as) h Q1) (kk : ∀ r h', Q1 r h' → zT G (d + 1) M pc' L (r.toList ++ S) h' Q) : zT G (d + 1) M pc L S0 h Q := by
  obtain ⟨hd, rfl⟩ := hd
  intro p e s m args below meth c H locs ls hX hS hW hL
  obtain ⟨hx, hb, hml, hr, hts, hown, hlk, hK, hSt⟩ := id hX
  subst hS0
  obtain ⟨⟨⟨host, w1⟩, w2, w3, w4⟩, hdsc, hmax⟩ := hs
  have cw := va_cnB (R := zrm (d + 1)) (s := s) (args := args) (own := M.1.cls) (host := host) (index := index) (y := N.1) (bytes := N.2.1) (maxL := N.2.2.1) (mc := 0) (ms := 0) (ret := N.2.2.2) (Ts := zall) (ws := zws N) (rm := zrm d) n hts (z_ws N w4) rfl rfl rfl (hK.2.1 _ w1) (hts _ w3) hdsc ⟨Nat.le_refl _, by have := hmax; show 8 + (N.2.2.1 + 11) + 48 * d ≤ 48 * (d + 1); omega⟩
  have hstk : ((as.reverse ++ S).map (zc G)) = (as.map (zc G)).reverse ++ S.map (zc G) := by
    rw [List.map_append, List.map_reverse]
  refine z_call (rest := S.map (zc G)) (va_runSN (As := as.map (zc G)) ⟨hx, hb, hml, hown, hts⟩ hC ⟨cw, hts _ w2, trivial⟩ ⟨zPc_blind G _ h, z_pre hK hSt hS hW⟩ rfl (by rw [List.length_map]; exact hn) hL.1 hstk (lv_room (zc_sum G S hS4)) hd ⟨Nat.le_refl _, Nat.le_refl _⟩) hS ?_
  intro r h' H1 locs1 hq hW1 hS1
  have k2 := kk r h' hq p e s m args below meth c H1 locs1 ls hX hS1 hW1 hL
  rw [List.map_append] at k2
  have e1 : r.toList.map (zc G) = (r.map (zc G)).toList := by cases r <;> rfl
  rw [e1] at k2
  exact k2
theorem zt_cV {G : ZG} {d : Nat} {M N : ZM} {pc pc' : Nat} {L S : List ZV} {h : ZH} {Q Q1 : Option ZV → ZH → Prop} {as : List ZV} {k i ci Nf index n : Nat} {S0 : List ZV} (hd : zD M.2.1 pc pc' (.invokevirtual index) 3) (hs : zVS M.1.cls index ci N n) (hk : zkd k i = .inl (ci, Nf)) (hi : i < zcnt k) (hn : as.length = n) (hS4 : S.length ≤ 4) (hS0 : S0 = as.reverse ++ (zr k i :: S)) (hC : zC G d N (zr k i :: as) h Q1) (kk : ∀ r h', Q1 r h' → zT G (d + 1) M pc' L (r.toList ++ S) h' Q) : zT G (d + 1) M pc L S0 h Q := by
  obtain ⟨hd, rfl⟩ := hd
  intro p e s m args below meth c H locs ls hX hS hW hL
  obtain ⟨hx, hb, hml, hr, hts, hown, hlk, hK, hSt⟩ := id hX
  subst hS0
  obtain ⟨⟨w1, w2, w3, w4, w5⟩, hdsc, hmax, T, Nf', hc⟩ := hs
  have cw := cwV (R := zrm (d + 1)) (s := s) (args := args) (own := M.1.cls) (C := N.1.cls) (index := index) (y := N.1) (bytes := N.2.1) (maxL := N.2.2.1) (mc := 0) (ms := 0) (ret := N.2.2.2) (Ts := zall) (ws := zws N) (rm := zrm d) n hts (zin_of w1 (zin_of w2 (zin_of w3 (zin_of w4 (z_ws N w5))))) rfl rfl rfl ⟨rfl, hdsc⟩ ⟨Nat.le_refl _, by have := hmax; show 8 + (N.2.2.1 + 11) + 48 * d ≤ 48 * (d + 1); omega⟩
  obtain ⟨q0, -, hq0⟩ := zL_at G h hi
  rw [zE_obj G h hk] at hq0
  have hrv := va_recv hK.1 hW hc hq0
  have hstk : ((as.reverse ++ (zr k i :: S)).map (zc G)) = (as.map (zc G)).reverse ++ Value.ref (G.2.2.2 k i) :: S.map (zc G) := by
    rw [List.map_append, List.map_reverse]; rfl
  refine z_call (rest := S.map (zc G)) (va_runV (As := as.map (zc G)) ⟨hx, hb, hml, hown, hts⟩ hC cw ⟨zPc_blind G _ h, hrv, z_pre (as := zr k i :: as) hK hSt hS hW⟩ rfl (by rw [List.length_map]; exact hn) hL.1 hstk (lv_room (zc_sum G S hS4)) hd ⟨Nat.le_refl _, Nat.le_refl _⟩) hS ?_
  intro r h' H1 locs1 hq hW1 hS1
  have k2 := kk r h' hq p e s m args below meth c H1 locs1 ls hX hS1 hW1 hL
  rw [List.map_append] at k2
  have e1 : r.toList.map (zc G) = (r.map (zc G)).toList := by cases r <;> rfl
  rw [e1] at k2
  exact k2
theorem zt_cO {G : ZG} {d : Nat} {M N : ZM} {pc pc' : Nat} {L S : List ZV} {h : ZH} {Q Q1 : Option ZV → ZH → Prop} {as : List ZV} {k i ci Nf index n : Nat} {S0 : List ZV} (hd : zD M.2.1 pc pc' (.invokevirtual index) 3) {X : ZM} (hs : zOS M.1.cls index ci X N n) (hk : zkd k i = .inl (ci, Nf)) (hi : i < zcnt k) (hn : as.length = n) (hS4 : S.length ≤ 4) (hS0 : S0 = as.reverse ++ (zr k i :: S)) (hC : zC G d N (zr k i :: as) h Q1) (kk : ∀ r h', Q1 r h' → zT G (d + 1) M pc' L (r.toList ++ S) h' Q) : zT G (d + 1) M pc L S0 h Q := by
  obtain ⟨hd, rfl⟩ := hd
  intro p e s m args below meth c H locs ls hX hS hW hL
  obtain ⟨hx, hb, hml, hr, hts, hown, hlk, hK, hSt⟩ := id hX
  subst hS0
  obtain ⟨C, T, Nf', hc, ⟨w1, w2, w3, w4, w5, w6, w7, w8⟩, hdsc, hmax⟩ := hs
  have cw := va_cwO (R := zrm (d + 1)) (s := s) (args := args) (own := M.1.cls) (C := C) (owner := X.1.cls) (index := index) (x := X.1) (y := N.1) (bytes := N.2.1) (maxL := N.2.2.1) (mc := 0) (ms := 0) (ret := N.2.2.2) (Ts := zall) (ws := zws N) (rm := zrm d) n hts (zin_of w1 (zin_of w2 (zin_of w3 (zin_of w4 (zin_of w5 (zin_of w6 (z_ws N w7))))))) rfl rfl rfl w8 hdsc ⟨Nat.le_refl _, by have := hmax; show 8 + (N.2.2.1 + 11) + 48 * d ≤ 48 * (d + 1); omega⟩
  obtain ⟨q0, -, hq0⟩ := zL_at G h hi
  rw [zE_obj G h hk] at hq0
  have hrv := va_recv hK.1 hW hc hq0
  have hstk : ((as.reverse ++ (zr k i :: S)).map (zc G)) = (as.map (zc G)).reverse ++ Value.ref (G.2.2.2 k i) :: S.map (zc G) := by
    rw [List.map_append, List.map_reverse]; rfl
  refine z_call (rest := S.map (zc G)) (va_runU (As := as.map (zc G)) ⟨hx, hb, hml, hown, hts⟩ hC cw ⟨zPc_blind G _ h, hrv, z_pre (as := zr k i :: as) hK hSt hS hW⟩ rfl (by rw [List.length_map]; exact hn) hL.1 hstk (lv_room (zc_sum G S hS4)) hd ⟨Nat.le_refl _, Nat.le_refl _⟩) hS ?_
  intro r h' H1 locs1 hq hW1 hS1
  have k2 := kk r h' hq p e s m args below meth c H1 locs1 ls hX hS1 hW1 hL
  rw [List.map_append] at k2
  have e1 : r.toList.map (zc G) = (r.map (zc G)).toList := by cases r <;> rfl
  rw [e1] at k2
  exact k2
theorem zt_cU {G : ZG} {d : Nat} {M N : ZM} {pc pc' : Nat} {L S : List ZV} {h : ZH} {Q Q1 : Option ZV → ZH → Prop} {as : List ZV} {k i ci Nf index n : Nat} {S0 : List ZV} (hd : zD M.2.1 pc pc' (.invokespecial index) 3) (hs : zUS M.1.cls index N n) (hcl : ∃ (C : String) (T : u_T), vwCl[ci]? = some (C, T, Nf)) (hk : zkd k i = .inl (ci, Nf)) (hi : i < zcnt k) (hn : as.length = n) (hS4 : S.length ≤ 4) (hS0 : S0 = as.reverse ++ (zr k i :: S)) (hC : zC G d N (zr k i :: as) h Q1) (kk : ∀ r h', Q1 r h' → zT G (d + 1) M pc' L (r.toList ++ S) h' Q) : zT G (d + 1) M pc L S0 h Q := by
  obtain ⟨hd, rfl⟩ := hd
  intro p e s m args below meth c H locs ls hX hS hW hL
  obtain ⟨hx, hb, hml, hr, hts, hown, hlk, hK, hSt⟩ := id hX
  subst hS0
  obtain ⟨⟨w1, w2, w3, w4, w5, w6⟩, hdsc, hmax⟩ := hs
  obtain ⟨C, T, hc⟩ := hcl
  have cw := va_cwSU (R := zrm (d + 1)) (s := s) (args := args) (own := M.1.cls) (index := index) (y := N.1) (bytes := N.2.1) (maxL := N.2.2.1) (mc := 0) (ms := 0) (ret := N.2.2.2) (Ts := zall) (ws := zws N) (rm := zrm d) n hts (zin_of w1 (zin_of w2 (zin_of w3 (zin_of w4 (zin_of w5 (z_ws N w6)))))) rfl rfl rfl hdsc ⟨Nat.le_refl _, by have := hmax; show 8 + (N.2.2.1 + 11) + 48 * d ≤ 48 * (d + 1); omega⟩
  obtain ⟨q0, -, hq0⟩ := zL_at G h hi
  rw [zE_obj G h hk] at hq0
  have hrv := va_recv hK.1 hW hc hq0
  have hat := (hK.1.1 ci _ hc).2
  have hstk : ((as.reverse ++ (zr k i :: S)).map (zc G)) = (as.map (zc G)).reverse ++ Value.ref (G.2.2.2 k i) :: S.map (zc G) := by
    rw [List.map_append, List.map_reverse]; rfl
  refine z_call (rest := S.map (zc G)) (va_runSU (As := as.map (zc G)) hat ⟨hx, hb, hml, hown, hts⟩ hC cw ⟨zPc_blind G _ h, hrv, z_pre (as := zr k i :: as) hK hSt hS hW⟩ rfl (by rw [List.length_map]; exact hn) hL.1 hstk (lv_room (zc_sum G S hS4)) hd ⟨Nat.le_refl _, Nat.le_refl _⟩) hS ?_
  intro r h' H1 locs1 hq hW1 hS1
  have k2 := kk r h' hq p e s m args below meth c H1 locs1 ls hX hS1 hW1 hL
  rw [List.map_append] at k2
  have e1 : r.toList.map (zc G) = (r.map (zc G)).toList := by cases r <;> rfl
  rw [e1] at k2
  exact k2
