/-! ===== throws, catches, their contracts ===== -/
def xZ (G : ZG) (Q : Option ZV → ZH → Prop) : NZ := fun below args s => MQ below (zQ G Q) args s 1 6 (zA G)
def xZX (G : ZG) (h : ZH) (Q : Option ZV → ZH → Prop) (Px : String → Prop) : NZ := fun below args s => vx_MQ below (zQ G Q) (xXC G h Px) args s 1 6 (zA G)
abbrev xA (G : ZG) : State → Nat → Prop := fun _ => zA G
theorem xt_iret {G : ZG} {R : Room} {K : XP} {M : ZM} {pc pc' : Nat} {L : List ZV} {h : ZH} {cells slots : Nat} {Q : Option ZV → ZH → Prop} {v : Int32} (hd : zD M.2.1 pc pc' .ireturn 1) (hr0 : M.2.2.2 = some .int) (hc : cells ≤ 1) (hs : slots ≤ 6) (hq : Q (some (zi v)) h) : xT G R (xA G) (xZ G Q) K M pc L [zi v] h cells slots := by
  obtain ⟨hd, -⟩ := hd
  intro p e s m args below meth c H locs ls hX hA hS hW hL
  obtain ⟨hx, hb, hml, hr, hts, hown, hlk, hK, hSt⟩ := id hX.1
  refine W.widen (k := 1) (n := 6) hc hs ?_
  exact W.iret hx hb (hr.trans hr0) (zQ_end hq hS hW) hS.2.2 hd hlk
theorem xt_lretX {G : ZG} {R : Room} {K : XP} {M : ZM} {pc pc' : Nat} {L : List ZV} {h h0 : ZH} {cells slots : Nat} {Q : Option ZV → ZH → Prop} {Px : String → Prop} {v : Int64} (hd : zD M.2.1 pc pc' .lreturn 1) (hr0 : M.2.2.2 = some .long) (hc : cells ≤ 1) (hs : slots ≤ 6) (hq : Q (some (zl v)) h) : xT G R (xA G) (xZX G h0 Q Px) K M pc L [zl v] h cells slots := by
  obtain ⟨hd, -⟩ := hd
  intro p e s m args below meth c H locs ls hX hA hS hW hL
  obtain ⟨hx, hb, hml, hr, hts, hown, hlk, hK, hSt⟩ := id hX.1
  refine vx_ret (W.widen (k := 1) (n := 6) hc hs ?_)
  exact W.lret hx hb (hr.trans hr0) (zQ_end hq hS hW) hS.2.2 hd hlk
theorem xt_vretX {G : ZG} {R : Room} {K : XP} {M : ZM} {pc pc' : Nat} {L : List ZV} {h h0 : ZH} {cells slots : Nat} {Q : Option ZV → ZH → Prop} {Px : String → Prop} (hd : zD M.2.1 pc pc' .return_ 1) (hr0 : M.2.2.2 = none) (hc : cells ≤ 1) (hs : slots ≤ 6) (hq : Q none h) : xT G R (xA G) (xZX G h0 Q Px) K M pc L [] h cells slots := by
  obtain ⟨hd, -⟩ := hd
  intro p e s m args below meth c H locs ls hX hA hS hW hL
  obtain ⟨hx, hb, hml, hr, hts, hown, hlk, hK, hSt⟩ := id hX.1
  refine vx_ret (W.widen (k := 1) (n := 6) hc hs ?_)
  exact W.vret hx hb (hr.trans hr0) (zQ_end hq hS hW) hS.2.2 hd hlk
/-! the words of a throw -/
def xB (X : String) : List Cond := .castable X X :: xdec.map .declares
def xthr (own : String) (ik is ic : Nat) (X text : String) : Prop := Cond.classLink own ik X ∈ zall ∧ Cond.initialized X ∈ zall ∧ (own, is, text) ∈ xstr ∧ X ∈ xcas ∧ (vx_atS own ic X xNs).all (fun w => decide (w ∈ lw_tbl)) = true ∧ ((vx_atS own ic X xNs).filter (fun w => !goodWord w)).all (fun w => decide (w ∈ xB X)) = true ∧ (Cond.classLink own ik X :: Cond.initialized X :: vx_atS own ic X xNs).all vx_ot = true ∧ Bundle.fit X = true
theorem xthr_hat {G : ZG} {s : State} {args : Array Value} {own : String} {ik is ic : Nat} {X text : String} (hw : xthr own ik is ic X text) (hts : ∀ w ∈ zall, w.before args s = true) (hc : xcK G s) : ∀ w ∈ vx_atS own ic X xNs, w.before args s = true := by
  obtain ⟨w1, w2, w3, w4, w5, w6, w7, w8⟩ := hw
  refine vx_hat (B := xB X) (fun w hw => ?_) (fun w hw => of_decide_eq_true (List.all_eq_true.mp w6 w hw)) (fun w hw => ?_)
  · have h1 := List.mem_filter.mp hw
    exact hts w (zall_of (of_decide_eq_true (List.all_eq_true.mp w5 w h1.1)) h1.2)
  · rcases List.mem_cons.mp hw with rfl | h1
    · exact va_Nw.use rfl (hc.2.2.1 X w4)
    · obtain ⟨x, hx, rfl⟩ := List.mem_map.mp h1
      exact va_Nw.use rfl (hc.2.1 x hx)
theorem xNs_fit : ∀ n ∈ xNs, Bundle.fit n = true := by
  intro n hn
  rcases List.mem_cons.mp hn with rfl | h
  · decide +kernel
  · rcases List.mem_cons.mp h with rfl | h
    · decide +kernel
    · cases h
theorem x_hx {G : ZG} {h : ZH} {s : State} {H : Heap} {locs : List Loc} {Px : String → Prop} {X : String} (hP : Px X) (hS : va_S (zA G) s.heap H locs) (hW : zW G h H) : ∀ t : State, s.vm.Alike t.vm → H.size ≤ t.heap.size → (∀ q : Nat, q < H.size → t.heap[q]? = H[q]?) → xXC G h Px X s t := by
  intro t _ h2 h3
  refine ⟨hP, va_P.kept hW (fun k q hk => h3 q.1 (hW k q hk).lt), Nat.le_trans hS.1 h2, fun q h4 h5 => ?_⟩
  rw [h3 q (Nat.lt_of_lt_of_le h4 hS.1)]
  exact hS.2.1 q h4 h5
def xKn : XP := fun _ _ c => ∀ x ∈ c.exceptionTable.toList, False
theorem xt_throwS {G : ZG} {R : Room} {M : ZM} {pc : Nat} {L : List ZV} {h : ZH} {cells slots : Nat} {Q : Option ZV → ZH → Prop} {Px : String → Prop} {ik is ic : Nat} {X text : String} (hw : xthr M.1.cls ik is ic X text)
    (d0 : decode M.2.1 pc = .ok (.new ik, 3)) (d3 : decode M.2.1 (pc + 3) = .ok (.dup, 1)) (d4 : decode M.2.1 (pc + 4) = .ok (.ldc is, 2)) (d6 : decode M.2.1 (pc + 6) = .ok (.invokespecial ic, 3)) (d9 : decode M.2.1 (pc + 9) = .ok (.athrow, 1))
    (hRf : 6 ≤ R.frames) (hRl : 82 ≤ R.locals) (hRc : 1 ≤ R.cells) (hRs : 6 ≤ R.slots) (hP : Px X) (hc : cells = 0) (hs : slots = 0) : xT G R (xA G) (xZX G h Q Px) xKn M pc L [] h cells slots := by
  subst hc; subst hs
  intro p e s m args below meth c H locs ls hX hA hS hW hL
  obtain ⟨hx, hb, hml, hr, hts, hown, hlk, hK, hSt⟩ := id hX.1
  obtain ⟨w1, w2, w3, w4, w5, w6, w7, w8⟩ := id hw
  obtain ⟨sa, hsa⟩ := hX.2.1.2.2.2.2 _ w3
  exact vx_throwS (names := xNs) (cls := X) (text := text) (sa := sa) (ik := ik) (is := is) (ic := ic) hx hb hX.2.1.1 hown w8 xNs_fit (hts _ w1) (hts _ w2) hsa (xthr_hat hw hts hX.2.1) (fun w hw => List.all_eq_true.mp w7 w hw) hX.2.2.1.1 hX.2.2.1.2 hS (hL.1.trans hml.symm) d0 d3 d4 d6 d9 (fun x hx => (hX.2.2.2 x hx).elim) hRf hRl (by omega) (by omega) hlk (x_hx hP hS hW) hS.2.2 (Nat.le_of_ble_eq_true rfl) (Nat.le_of_ble_eq_true rfl)
theorem xt_throwSW {G : ZG} {R : Room} {M : ZM} {pc : Nat} {L : List ZV} {h : ZH} {cells slots : Nat} {Q : Option ZV → ZH → Prop} {Px : String → Prop} {ik is ic : Nat} {X text : String} (hw : xthr M.1.cls ik is ic X text)
    (d0 : decode M.2.1 pc = .ok (.new ik, 3)) (d3 : decode M.2.1 (pc + 3) = .ok (.dup, 1)) (d4 : decode M.2.1 (pc + 4) = .ok (.ldc_w is, 3)) (d7 : decode M.2.1 (pc + 7) = .ok (.invokespecial ic, 3)) (d10 : decode M.2.1 (pc + 10) = .ok (.athrow, 1))
    (hRf : 6 ≤ R.frames) (hRl : 82 ≤ R.locals) (hRc : 1 ≤ R.cells) (hRs : 6 ≤ R.slots) (hP : Px X) (hc : cells = 0) (hs : slots = 0) : xT G R (xA G) (xZX G h Q Px) xKn M pc L [] h cells slots := by
  subst hc; subst hs
  intro p e s m args below meth c H locs ls hX hA hS hW hL
  obtain ⟨hx, hb, hml, hr, hts, hown, hlk, hK, hSt⟩ := id hX.1
  obtain ⟨w1, w2, w3, w4, w5, w6, w7, w8⟩ := id hw
  obtain ⟨sa, hsa⟩ := hX.2.1.2.2.2.2 _ w3
  exact vx_throwSW (names := xNs) (cls := X) (text := text) (sa := sa) (ik := ik) (is := is) (ic := ic) hx hb hX.2.1.1 hown w8 xNs_fit (hts _ w1) (hts _ w2) hsa (xthr_hat hw hts hX.2.1) (fun w hw => List.all_eq_true.mp w7 w hw) hX.2.2.1.1 hX.2.2.1.2 hS (hL.1.trans hml.symm) d0 d3 d4 d7 d10 (fun x hx => (hX.2.2.2 x hx).elim) hRf hRl (by omega) (by omega) hlk (x_hx hP hS hW) hS.2.2 (Nat.le_of_ble_eq_true rfl) (Nat.le_of_ble_eq_true rfl)
/-! contracts out of entries -/
theorem xlo_entry (G : ZG) {as L : List ZV} {n : Nat} (hn : (zargs as).length ≤ n) (hL : zleb L (zargs as)) : zlo G ((lg_sl (as.map (zc G)) ++ List.replicate (n - (lg_sl (as.map (zc G))).length) Slot.unset).toArray) n L := by
  have hl := lv_entry (as.map (zc G)) (n := n) (by rw [zargs_len]; exact hn)
  refine zlo_sub ?_ (zleb_get L (zargs as) hL)
  refine ⟨hl.1, hl.2.1, fun i v hi hv => ?_⟩
  have h1 := zargs_sl G as i v hi hv
  have h2 : i < (lg_sl (as.map (zc G))).length := (List.getElem?_eq_some_iff.mp h1).1
  rw [List.getElem?_toArray, List.getElem?_append_left h2]
  exact h1
theorem xAA_self (G : ZG) (s : State) : xAA G (zA G) s := ⟨fun _ h => h, fun _ _ h => h⟩
theorem xCX_of {G : ZG} {d : Nat} {M : ZM} {as L : List ZV} {h : ZH} {Q : Option ZV → ZH → Prop} {Px : String → Prop} (hy : plainName M.1.cls = true) (hn : (zargs as).length ≤ M.2.2.1) (hL : zleb L (zargs as)) (k : xT G (nRm d 1 6) (xA G) (xZX G h Q Px) xKn M 0 L [] h 0 0) : xCX G d M as h Q Px := by
  refine vx_ofW (cc := M.2.1) (maxL := M.2.2.1) (ret := M.2.2.2) hy rfl ?_
  intro p e s m args below meth c s₁ B hml ht hv
  obtain ⟨rfl, hW, hK, hSt, hc, hcH⟩ := hv
  have hts := atoms_spec (ws := zws M) B.pre
  have hX : xX G M xKn p s m (as.map (zc G)).toArray meth c := ⟨⟨B.exec, B.bytes, hml, B.returns, fun w hw => hts w (List.mem_cons_of_mem _ hw), findClass_of_methodNamed B.named, B.notSynchronized, hK, hSt⟩, hc, hcH, ht⟩
  rw [lg_entry_eq]
  exact k p e s m _ below meth c s.heap [] _ hX (xAA_self G s) va_S.rf hW (xlo_entry G hn hL)
theorem xC_of {G : ZG} {d : Nat} {M : ZM} {as L : List ZV} {h : ZH} {Q : Option ZV → ZH → Prop} (hy : plainName M.1.cls = true) (hn : (zargs as).length ≤ M.2.2.1) (hL : zleb L (zargs as)) (k : xT G (nRm d 1 6) (xA G) (xZ G Q) (fun _ _ _ => True) M 0 L [] h 0 0) : xC G d M as h Q := by
  refine Met.ofW (cc := M.2.1) (maxL := M.2.2.1) (ret := M.2.2.2) hy rfl ?_
  intro p e s m args below meth c s₁ B hml hv
  obtain ⟨rfl, hW, hK, hSt, hc, hcH⟩ := hv
  have hts := atoms_spec (ws := zws M) B.pre
  have hX : xX G M (fun _ _ _ => True) p s m (as.map (zc G)).toArray meth c := ⟨⟨B.exec, B.bytes, hml, B.returns, fun w hw => hts w (List.mem_cons_of_mem _ hw), findClass_of_methodNamed B.named, B.notSynchronized, hK, hSt⟩, hc, hcH, trivial⟩
  rw [lg_entry_eq]
  exact k p e s m _ below meth c s.heap [] _ hX (xAA_self G s) va_S.rf hW (xlo_entry G hn hL)
theorem x_ofWH {l : Launch} {y : MethodName} {ws ws' : List Cond} {rm : Room} {Pc : Array Value → State → Prop} {Qc : Array Value → State → Outcome → State → Prop} {mc ms : Nat} {free : Addr → Prop} {cc : ByteArray} {maxL : Nat} {ret : Option FieldType} {hh : List (Nat × Nat × Nat × Nat)}
    (hy : plainName y.cls = true) (hw : ws = Cond.codeWith y cc maxL ret hh :: ws')
    (body : ∀ p e s m args below meth c s₁, BodyLoose p l y (headSpec ws rm) cc maxL ret e s m args below meth c s₁ → c.maxLocals = maxL → Pc args s →
      W p l e (headSpec ws rm).room s m args below meth c s.heap [] 0 0 (MQ below Qc args s mc ms free) (entryFrame m args maxL)) : Met l y ws rm Pc Qc mc ms free := by
  refine MetFree.of_bodyS (code := cc) (maxLocals := maxL) (ret := ret) hy ?_ ?_
  · intro args s m h hn
    obtain ⟨m9, meth, c, hn9, h1, h2, h3, h4, -, h5, h6, -⟩ := Cond.codeWith_spec (atoms_spec (ws := ws) h _ (by rw [hw]; exact List.mem_cons_self))
    cases hn.symm.trans hn9
    exact ⟨meth, c, h1, h2, h3, h4, h5, h6⟩
  · intro p e s m args below meth c s₁ B hml hP _
    have hh0 : s₁.heap = s.heap := by rw [B.state]; rfl
    obtain ⟨t, a1, o, b1, b2, b3⟩ := body p e s m args below meth c s₁ B hml hP s₁ hh0 (Stand.of_body B)
    exact ⟨t, o, a1, b1, b2, ⟨b3.1, b3.2⟩⟩
def xKh (hh : List (Nat × Nat × Nat × Nat)) : XP := fun _ _ c => c.exceptionTable.toList = tableOf hh
theorem xCW_of {G : ZG} {d : Nat} {M : ZM} {hh : List (Nat × Nat × Nat × Nat)} {as L : List ZV} {h : ZH} {Q : Option ZV → ZH → Prop} (hy : plainName M.1.cls = true) (hn : (zargs as).length ≤ M.2.2.1) (hL : zleb L (zargs as)) (k : xT G (nRm d 1 6) (xA G) (xZ G Q) (xKh hh) M 0 L [] h 0 0) : xCW G d M hh as h Q := by
  refine x_ofWH (cc := M.2.1) (maxL := M.2.2.1) (ret := M.2.2.2) (hh := hh) hy rfl ?_
  intro p e s m args below meth c s₁ B hml hv
  obtain ⟨rfl, hW, hK, hSt, hc, hcH⟩ := hv
  have hts := atoms_spec (ws := xws M hh) B.pre
  have hX : xX G M (xKh hh) p s m (as.map (zc G)).toArray meth c := ⟨⟨B.exec, B.bytes, hml, B.returns, fun w hw => hts w (List.mem_cons_of_mem _ hw), findClass_of_methodNamed B.named, B.notSynchronized, hK, hSt⟩, hc, hcH, vx_table (x := M.1) B (hts _ List.mem_cons_self)⟩
  rw [lg_entry_eq]
  exact k p e s m _ below meth c s.heap [] _ hX (xAA_self G s) va_S.rf hW (xlo_entry G hn hL)
/-! throwing callees, handlers -/
def xTX (G : ZG) (R : Room) (A : State → Nat → Prop) (Z : NZ) (K : XP) (M : ZM) (pc : Nat) (L S : List ZV) (h : ZH) (cells slots : Nat) (E : String) : Prop :=
  ∀ (p : Program) (e : Env) (s : State) (m : MethodId) (args : Array Value) (below : List Frame) (meth : Method) (c : Code) (H : Heap) (locs : List Loc) (ls : Array Slot) (ce : Cell) (q : Addr),
    xX G M K p s m args meth c → xAA G (A s) s → va_S (A s) s.heap H locs → zW G h H → zlo G ls M.2.2.1 L → H[q]? = some ce → ce.vm = .none → s.vm.findClass E = some ce.cls →
    vx_W p G.1 e R s m args below meth c H locs cells slots (Z below args s) (F0 m pc ls (S.map (zc G))) q
theorem zlo_st1u {G : ZG} {ls : Array Slot} {nL : Nat} {L : List ZV} {i : Nat} {q : Nat} (h : lv_has ls nL ((i, Value.ref q) :: (zas G L).filter (fun q => !(q.1 == i) && !(q.1 + 1 == i && q.2.category == 2)))) : zlo G ls nL (zst1 L i zu) := by
  refine ⟨h.1, h.2.1, fun j w hj hw => ?_⟩
  rcases zst1_get L i zu j w hj hw with ⟨e1, e2⟩ | ⟨e1, e2, e3⟩
  · exact absurd e2 hw
  · refine h.2.2 (j, zc G w) (List.mem_cons_of_mem _ (List.mem_filter.mpr ⟨zas_mem G e2 hw, ?_⟩))
    simp only [Bool.and_eq_true, Bool.not_eq_true', beq_eq_false_iff_ne, ne_eq, Bool.and_eq_false_iff]
    refine ⟨e1, ?_⟩
    by_cases hji : j + 1 = i
    · exact Or.inr (fun q => e3 ⟨hji, zc_cat2 q⟩)
    · exact Or.inl hji
section XR2
variable {G : ZG} {R : Room} {A : State → Nat → Prop} {Z : NZ} {K : XP} {M N : ZM} {pc pc' : Nat} {L S : List ZV} {h : ZH} {cells slots : Nat}
theorem x_hpass {own E : String} {args : Array Value} {s : State} {pc : Nat} {pre : List ExceptionTableEntry} (hts : ∀ w ∈ zall, w.before args s = true) (hc : xcK G s) (hp : ∀ z ∈ pre, z.catchType ≠ 0 ∧ ∃ nm, Cond.classLink own z.catchType nm ∈ zall ∧ (E, nm) ∈ xnc) : ∀ z ∈ pre, covers z pc = false ∨ (z.catchType ≠ 0 ∧ ∃ nm : String, (Cond.classLink own z.catchType nm).before args s = true ∧ va_Nc E nm s) := by
  intro z hz
  obtain ⟨h0, nm, h1, h2⟩ := hp z hz
  exact Or.inr ⟨h0, nm, hts _ h1, hc.2.2.2.1 _ h2⟩
theorem xx_catch {hh : List (Nat × Nat × Nat × Nat)} {E : String} {L' : List ZV} {n : Fin 4} (pre : List ExceptionTableEntry) (x : ExceptionTableEntry) (suf : List ExceptionTableEntry) (hsplit : tableOf hh = pre ++ x :: suf) (hp : ∀ z ∈ pre, z.catchType ≠ 0 ∧ ∃ nm, Cond.classLink M.1.cls z.catchType nm ∈ zall ∧ (E, nm) ∈ xnc) (hx : covers x pc = true) (h0 : x.catchType ≠ 0) (hl : Cond.classLink M.1.cls x.catchType E ∈ zall) (hE : E ∈ xcas) (hd : zD M.2.1 x.handlerPc pc' (.astore_n n) 1) (hn : (n : Nat) < M.2.2.1) (hL' : zst1 L (n : Nat) zu = L') (k : xT G R A Z (xKh hh) M pc' L' [] h cells slots) : xTX G R A Z (xKh hh) M pc L S h cells slots E := by
  obtain ⟨hd, rfl⟩ := hd
  intro p e s m args below meth c H locs ls ce q hX hA hS hW hL hce hcv hcl
  obtain ⟨hxx, hb, hml, hr, hts, hown, hlk, hK, hSt⟩ := id hX.1
  subst hL'
  refine vx_catch (own := M.1.cls) (name := E) (E := E) hown pre x suf (hX.2.2.2.trans hsplit) (x_hpass hts hX.2.1 hp) hx h0 (hts _ hl) (va_Nw.use rfl (hX.2.1.2.2.1 E hE)) hce hcv hcl ?_
  exact lv_astore_n hxx hb hd rfl (zas_has hL) hn rfl (fun ls h1 => k p e s m args below meth c H locs ls hX hA hS hW (zlo_st1u h1))
theorem xx_catch2 {hh : List (Nat × Nat × Nat × Nat)} {E : String} {L' : List ZV} {n : Nat} (pre : List ExceptionTableEntry) (x : ExceptionTableEntry) (suf : List ExceptionTableEntry) (hsplit : tableOf hh = pre ++ x :: suf) (hp : ∀ z ∈ pre, z.catchType ≠ 0 ∧ ∃ nm, Cond.classLink M.1.cls z.catchType nm ∈ zall ∧ (E, nm) ∈ xnc) (hx : covers x pc = true) (h0 : x.catchType ≠ 0) (hl : Cond.classLink M.1.cls x.catchType E ∈ zall) (hE : E ∈ xcas) (hd : zD M.2.1 x.handlerPc pc' (.astore n) 2) (hn : n < M.2.2.1) (hL' : zst1 L n zu = L') (k : xT G R A Z (xKh hh) M pc' L' [] h cells slots) : xTX G R A Z (xKh hh) M pc L S h cells slots E := by
  obtain ⟨hd, rfl⟩ := hd
  intro p e s m args below meth c H locs ls ce q hX hA hS hW hL hce hcv hcl
  obtain ⟨hxx, hb, hml, hr, hts, hown, hlk, hK, hSt⟩ := id hX.1
  subst hL'
  refine vx_catch (own := M.1.cls) (name := E) (E := E) hown pre x suf (hX.2.2.2.trans hsplit) (x_hpass hts hX.2.1 hp) hx h0 (hts _ hl) (va_Nw.use rfl (hX.2.1.2.2.1 E hE)) hce hcv hcl ?_
  exact lv_astore hxx hb hd (zas_has hL) hn rfl (fun ls h1 => k p e s m args below meth c H locs ls hX hA hS hW (zlo_st1u h1))
/-- an overridden method that may throw -/
theorem xt_cOX {d : Nat} {X : ZM} {Q1 : Option ZV → ZH → Prop} {Px : String → Prop} {as : List ZV} {k i ci Nf index n : Nat} {S0 : List ZV} (hd : zD M.2.1 pc pc' (.invokevirtual index) 3) (hs : zOS M.1.cls index ci X N n) (hk : zkd k i = .inl (ci, Nf)) (hi : i < zcnt k) (hn : as.length = n) (hS4 : S.length ≤ 4) (hS0 : S0 = as.reverse ++ (zr k i :: S)) (hRf : d + 1 ≤ R.frames) (hRl : 48 * d + 48 ≤ R.locals) (hRc : cells + 1 ≤ R.cells) (hRs : slots + 6 ≤ R.slots) (hC : xCX G d N (zr k i :: as) h Q1 Px) (kx : ∀ E, Px E → xTX G R A Z K M pc L S h (cells + 1) (slots + 6) E) (kk : ∀ r h', Q1 r h' → xT G R A Z K M pc' L (r.toList ++ S) h' (cells + 1) (slots + 6)) : xT G R A Z K M pc L S0 h cells slots := by
  obtain ⟨hd, rfl⟩ := hd
  intro p e s m args below meth c H locs ls hX hA hS hW hL
  obtain ⟨hx, hb, hml, hr, hts, hown, hlk, hK, hSt⟩ := id hX.1
  subst hS0
  obtain ⟨C, T, Nf', hc, ⟨w1, w2, w3, w4, w5, w6, w7, w8⟩, hdsc, hmax⟩ := hs
  have cw := va_cwO (R := R) (s := s) (args := args) (own := M.1.cls) (C := C) (owner := X.1.cls) (index := index) (x := X.1) (y := N.1) (bytes := N.2.1) (maxL := N.2.2.1) (mc := 1) (ms := 6) (ret := N.2.2.2) (Ts := zall) (ws := zws N) (rm := nRm d 1 6) n hts (zin_of w1 (zin_of w2 (zin_of w3 (zin_of w4 (zin_of w5 (zin_of w6 (z_ws N w7))))))) rfl rfl rfl w8 hdsc ⟨hRf, by show 8 + (N.2.2.1 + 11) + 48 * d ≤ R.locals; omega⟩
  obtain ⟨q0, -, hq0⟩ := zL_at G h hi
  rw [zE_obj G h hk] at hq0
  have hrv := va_recv hK.1 hW hc hq0
  have hstk : ((as.reverse ++ (zr k i :: S)).map (zc G)) = (as.map (zc G)).reverse ++ Value.ref (G.2.2.2 k i) :: S.map (zc G) := by
    rw [List.map_append, List.map_reverse]; rfl
  refine x_callX (mc := 1) (ms := 6) (rest := S.map (zc G)) (vx_runU (As := as.map (zc G)) ⟨hx, hb, hml, hown, hts⟩ hC cw ⟨xPc_blind G _ h, hrv, x_preX (as := zr k i :: as) hK hSt hX.2.1 hX.2.2.1 hA hS hW⟩ rfl (by rw [List.length_map]; exact hn) hL.1 hstk (lv_room (zc_sum G S hS4)) hd ⟨hRc, hRs⟩) hA hS ?_ ?_
  · intro E ce q9 H1 locs1 hP hW1 hS1 hce hcv hcl
    exact kx E hP p e s m args below meth c H1 locs1 ls ce q9 hX hA hS1 hW1 hL hce hcv hcl
  · intro r h' H1 locs1 hq hW1 hS1
    have k2 := kk r h' hq p e s m args below meth c H1 locs1 ls hX hA hS1 hW1 hL
    rw [x_toList] at k2
    exact k2
theorem xt_cVX {d : Nat} {Q1 : Option ZV → ZH → Prop} {Px : String → Prop} {as : List ZV} {k i ci Nf index n : Nat} {S0 : List ZV} (hd : zD M.2.1 pc pc' (.invokevirtual index) 3) (hs : zVS M.1.cls index ci N n) (hk : zkd k i = .inl (ci, Nf)) (hi : i < zcnt k) (hn : as.length = n) (hS4 : S.length ≤ 4) (hS0 : S0 = as.reverse ++ (zr k i :: S)) (hRf : d + 1 ≤ R.frames) (hRl : 48 * d + 48 ≤ R.locals) (hRc : cells + 1 ≤ R.cells) (hRs : slots + 6 ≤ R.slots) (hC : xCX G d N (zr k i :: as) h Q1 Px) (kx : ∀ E, Px E → xTX G R A Z K M pc L S h (cells + 1) (slots + 6) E) (kk : ∀ r h', Q1 r h' → xT G R A Z K M pc' L (r.toList ++ S) h' (cells + 1) (slots + 6)) : xT G R A Z K M pc L S0 h cells slots := by
  obtain ⟨hd, rfl⟩ := hd
  intro p e s m args below meth c H locs ls hX hA hS hW hL
  obtain ⟨hx, hb, hml, hr, hts, hown, hlk, hK, hSt⟩ := id hX.1
  subst hS0
  obtain ⟨⟨w1, w2, w3, w4, w5⟩, hdsc, hmax, T, Nf', hc⟩ := hs
  have cw := cwV (R := R) (s := s) (args := args) (own := M.1.cls) (C := N.1.cls) (index := index) (y := N.1) (bytes := N.2.1) (maxL := N.2.2.1) (mc := 1) (ms := 6) (ret := N.2.2.2) (Ts := zall) (ws := zws N) (rm := nRm d 1 6) n hts (zin_of w1 (zin_of w2 (zin_of w3 (zin_of w4 (z_ws N w5))))) rfl rfl rfl ⟨rfl, hdsc⟩ ⟨hRf, by show 8 + (N.2.2.1 + 11) + 48 * d ≤ R.locals; omega⟩
  obtain ⟨q0, -, hq0⟩ := zL_at G h hi
  rw [zE_obj G h hk] at hq0
  have hrv := va_recv hK.1 hW hc hq0
  have hstk : ((as.reverse ++ (zr k i :: S)).map (zc G)) = (as.map (zc G)).reverse ++ Value.ref (G.2.2.2 k i) :: S.map (zc G) := by
    rw [List.map_append, List.map_reverse]; rfl
  refine x_callX (mc := 1) (ms := 6) (rest := S.map (zc G)) (vx_runV (As := as.map (zc G)) ⟨hx, hb, hml, hown, hts⟩ hC cw ⟨xPc_blind G _ h, hrv, x_preX (as := zr k i :: as) hK hSt hX.2.1 hX.2.2.1 hA hS hW⟩ rfl (by rw [List.length_map]; exact hn) hL.1 hstk (lv_room (zc_sum G S hS4)) hd ⟨hRc, hRs⟩) hA hS ?_ ?_
  · intro E ce q9 H1 locs1 hP hW1 hS1 hce hcv hcl
    exact kx E hP p e s m args below meth c H1 locs1 ls ce q9 hX hA hS1 hW1 hL hce hcv hcl
  · intro r h' H1 locs1 hq hW1 hS1
    have k2 := kk r h' hq p e s m args below meth c H1 locs1 ls hX hA hS1 hW1 hL
    rw [x_toList] at k2
    exact k2
/-- an overridden method that makes nothing -/
theorem xt_cX {d : Nat} {X : ZM} {Q1 : Option ZV → ZH → Prop} {as : List ZV} {i index n : Nat} {S0 : List ZV} (hd : zD M.2.1 pc pc' (.invokevirtual index) 3) (hi : i < zcnt 4) (hn : as.length = n) (hS4 : S.length ≤ 4) (hS0 : S0 = as.reverse ++ (zr 4 i :: S)) (hRf : d + 1 ≤ R.frames) (hRl : 48 * d + 48 ≤ R.locals) (hRc : cells ≤ R.cells) (hRs : slots ≤ R.slots) (hC : zCX G d M.1.cls index X i as n h Q1) (kk : ∀ r h', Q1 r h' → xT G R A Z K M pc' L (r.toList ++ S) h' cells slots) : xT G R A Z K M pc L S0 h cells slots := by
  obtain ⟨N, hs, hC⟩ := hC
  obtain ⟨hd, rfl⟩ := hd
  intro p e s m args below meth c H locs ls hX hA hS hW hL
  obtain ⟨hx, hb, hml, hr, hts, hown, hlk, hK, hSt⟩ := id hX.1
  subst hS0
  obtain ⟨C, T, Nf', hc, ⟨w1, w2, w3, w4, w5, w6, w7, w8⟩, hdsc, hmax⟩ := hs
  have cw := va_cwO (R := R) (s := s) (args := args) (own := M.1.cls) (C := C) (owner := X.1.cls) (index := index) (x := X.1) (y := N.1) (bytes := N.2.1) (maxL := N.2.2.1) (mc := 0) (ms := 0) (ret := N.2.2.2) (Ts := zall) (ws := zws N) (rm := zrm d) n hts (zin_of w1 (zin_of w2 (zin_of w3 (zin_of w4 (zin_of w5 (zin_of w6 (z_ws N w7))))))) rfl rfl rfl w8 hdsc ⟨hRf, by show 8 + (N.2.2.1 + 11) + 48 * d ≤ R.locals; omega⟩
  obtain ⟨q0, -, hq0⟩ := zL_at G h hi
  rw [zE_obj G h (k := 4) (i := i) (ci := zsc i) (N := 0) rfl] at hq0
  have hrv := va_recv hK.1 hW hc hq0
  have hstk : ((as.reverse ++ (zr 4 i :: S)).map (zc G)) = (as.map (zc G)).reverse ++ Value.ref (G.2.2.2 4 i) :: S.map (zc G) := by
    rw [List.map_append, List.map_reverse]; rfl
  refine x_call (mc := 0) (ms := 0) (rest := S.map (zc G)) (va_runU (As := as.map (zc G)) ⟨hx, hb, hml, hown, hts⟩ hC cw ⟨zPc_blind G _ h, hrv, x_pre (as := zr 4 i :: as) hK hSt hA hS hW⟩ rfl (by rw [List.length_map]; exact hn) hL.1 hstk (lv_room (zc_sum G S hS4)) hd ⟨hRc, hRs⟩) hA hS ?_
  intro r h' H1 locs1 hq hW1 hS1
  have k2 := kk r h' hq p e s m args below meth c H1 locs1 ls hX hA hS1 hW1 hL
  rw [x_toList] at k2
  exact k2
theorem xt_cS {d : Nat} {Q1 : Option ZV → ZH → Prop} {as : List ZV} {index n : Nat} {S0 : List ZV} (hd : zD M.2.1 pc pc' (.invokestatic index) 3) (hs : zSS M.1.cls index N n) (hn : as.length = n) (hS4 : S.length ≤ 4) (hS0 : S0 = as.reverse ++ S) (hRf : d + 1 ≤ R.frames) (hRl : 48 * d + 48 ≤ R.locals) (hRc : cells ≤ R.cells) (hRs : slots ≤ R.slots) (hC : zC G d N as h Q1) (kk : ∀ r h', Q1 r h' → xT G R A Z K M pc' L (r.toList ++ S) h' cells slots) : xT G R A Z K M pc L S0 h cells slots := by
  obtain ⟨hd, rfl⟩ := hd
  intro p e s m args below meth c H locs ls hX hA hS hW hL
  obtain ⟨hx, hb, hml, hr, hts, hown, hlk, hK, hSt⟩ := id hX.1
  subst hS0
  obtain ⟨⟨w1, w2, w3, w4⟩, hdsc, hmax⟩ := hs
  have cw := va_cwS (R := R) (s := s) (args := args) (own := M.1.cls) (index := index) (y := N.1) (bytes := N.2.1) (maxL := N.2.2.1) (mc := 0) (ms := 0) (ret := N.2.2.2) (Ts := zall) (ws := zws N) (rm := zrm d) n hts (zin_of w1 (zin_of w2 (zin_of w3 (z_ws N w4)))) rfl rfl rfl hdsc ⟨hRf, by show 8 + (N.2.2.1 + 11) + 48 * d ≤ R.locals; omega⟩
  have hstk : ((as.reverse ++ S).map (zc G)) = (as.map (zc G)).reverse ++ S.map (zc G) := by
    rw [List.map_append, List.map_reverse]
  refine x_call (mc := 0) (ms := 0) (rest := S.map (zc G)) (va_runS (As := as.map (zc G)) ⟨hx, hb, hml, hown, hts⟩ hC cw ⟨zPc_blind G _ h, x_pre hK hSt hA hS hW⟩ rfl (by rw [List.length_map]; exact hn) hL.1 hstk (lv_room (zc_sum G S hS4)) hd ⟨hRc, hRs⟩) hA hS ?_
  intro r h' H1 locs1 hq hW1 hS1
  have k2 := kk r h' hq p e s m args below meth c H1 locs1 ls hX hA hS1 hW1 hL
  rw [x_toList] at k2
  exact k2
/-- a static method with handlers of its own -/
def xSW (own : String) (index : Nat) (N : ZM) (hh : List (Nat × Nat × Nat × Nat)) (n : Nat) : Prop := (Cond.methodLink own index N.1 ∈ zall ∧ Cond.static N.1 ∈ zall ∧ Cond.initialized N.1.cls ∈ zall ∧ Cond.codeWith N.1 N.2.1 N.2.2.1 N.2.2.2 hh ∈ zall) ∧ (N.1.cls ≠ "java/lang/invoke/MethodHandle" ∧ N.1.cls ≠ "java/lang/invoke/VarHandle" ∧ (parseMethodDescriptor N.1.desc).map (fun d => d.parameters.length) = some n) ∧ N.2.2.1 ≤ 29
theorem xt_cSW {d : Nat} {hh : List (Nat × Nat × Nat × Nat)} {Q1 : Option ZV → ZH → Prop} {as : List ZV} {index n : Nat} {S0 : List ZV} (hd : zD M.2.1 pc pc' (.invokestatic index) 3) (hs : xSW M.1.cls index N hh n) (hn : as.length = n) (hS4 : S.length ≤ 4) (hS0 : S0 = as.reverse ++ S) (hRf : d + 1 ≤ R.frames) (hRl : 48 * d + 48 ≤ R.locals) (hRc : cells + 1 ≤ R.cells) (hRs : slots + 6 ≤ R.slots) (hC : xCW G d N hh as h Q1) (kk : ∀ r h', Q1 r h' → xT G R A Z K M pc' L (r.toList ++ S) h' (cells + 1) (slots + 6)) : xT G R A Z K M pc L S0 h cells slots := by
  obtain ⟨hd, rfl⟩ := hd
  intro p e s m args below meth c H locs ls hX hA hS hW hL
  obtain ⟨hx, hb, hml, hr, hts, hown, hlk, hK, hSt⟩ := id hX.1
  subst hS0
  obtain ⟨⟨w1, w2, w3, w4⟩, hdsc, hmax⟩ := hs
  have hG : GoodIn zall (xws N hh) := by
    intro w hw
    rcases List.mem_cons.mp hw with rfl | h
    · exact zall_good _ w4
    · exact zall_good _ h
  have cw := vx_cwSW (R := R) (s := s) (args := args) (own := M.1.cls) (index := index) (y := N.1) (bytes := N.2.1) (maxL := N.2.2.1) (mc := 1) (ms := 6) (ret := N.2.2.2) (hh := hh) (Ts := zall) (ws := xws N hh) (rm := nRm d 1 6) n hts (zin_of w1 (zin_of w2 (zin_of w3 hG))) rfl rfl rfl hdsc ⟨hRf, by show 8 + (N.2.2.1 + 11) + 48 * d ≤ R.locals; omega⟩
  have hstk : ((as.reverse ++ S).map (zc G)) = (as.map (zc G)).reverse ++ S.map (zc G) := by
    rw [List.map_append, List.map_reverse]
  refine x_call (mc := 1) (ms := 6) (rest := S.map (zc G)) (vx_runSW (As := as.map (zc G)) ⟨hx, hb, hml, hown, hts⟩ hC cw ⟨xPc_blind G _ h, x_preX hK hSt hX.2.1 hX.2.2.1 hA hS hW⟩ rfl (by rw [List.length_map]; exact hn) hL.1 hstk (lv_room (zc_sum G S hS4)) hd ⟨hRc, hRs⟩) hA hS ?_
  intro r h' H1 locs1 hq hW1 hS1
  have k2 := kk r h' hq p e s m args below meth c H1 locs1 ls hX hA hS1 hW1 hL
  rw [x_toList] at k2
  exact k2
theorem xt_last {k i n : Nat} {j : Int32} {v : Int64} (hd : zD M.2.1 pc pc' .lastore 1) (hk : zkd k i = .inr (1, n)) (hi : i < zcnt k) (hj : vp_in j n) (kk : xT G R (xA G) Z K M pc' L S (zs2 h k i j.toNatClampNeg v) cells slots) : xT G R (xA G) Z K M pc L (zl v :: zi j :: zr k i :: S) h cells slots := by
  obtain ⟨hd, rfl⟩ := hd
  intro p e s m args below meth c H locs ls hX hA hS hW hL
  obtain ⟨hx, hb, hml, hr, hts, hown, hlk, hK, hSt⟩ := id hX.1
  obtain ⟨q, hq0, hq⟩ := zL_at G h hi
  rw [zE_long G h hk] at hq
  have hset := zL_set G (h := h) (h' := zs2 h k i j.toNatClampNeg v) hq0 (e := .inl (G.2.2.1 1, n, .inr (.inl (vp_updL (h.2 k i) j.toNatClampNeg v)))) (by rw [zE_long G _ hk, zs2_row]) (fun k' i' hn => zE_o2 G h v k' i' hn)
  refine va_last hx hb hK.1 hW (zD_of G h hK.2.2) hS q 1 hq rfl hj hd ?_
  intro H1 locs1 h1 _ h3
  rw [hset] at h1
  exact kk p e s m args below meth c H1 locs1 ls hX hA h3 h1 hL
end XR2
