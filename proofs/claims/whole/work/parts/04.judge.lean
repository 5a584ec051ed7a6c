/-! ===== the judgement zT: a frame of a method over the pure picture; zC: a method's contract ===== -/
def zall : List Cond := lw_tbl.filter goodWord
def znwb : Cond → Bool
  | .fieldLinkNest .. => true
  | .methodLinkNest .. => true
  | _ => false
def znw : List Cond := tables_1.filter znwb
theorem zall_of {w : Cond} (h : w ∈ lw_tbl) (hg : goodWord w = true) : w ∈ zall := List.mem_filter.mpr ⟨h, hg⟩
theorem znw_of {w : Cond} (h : w ∈ tables_1) (hg : znwb w = true) : w ∈ znw := List.mem_filter.mpr ⟨h, hg⟩
theorem zall_good : GoodIn zall zall := fun w h => ⟨h, good_of_word (List.mem_filter.mp h).2⟩
theorem znw_on {w : Cond} (h : w ∈ znw) : w.onTables = true := by
  have := (List.mem_filter.mp h).2
  unfold znwb at this
  split at this
  · rfl
  · rfl
  · cases this
theorem znw_warm {w : Cond} (h : w ∈ znw) {s U : State} (hW : s.WarmedH U.vm) (hZ : va_Nw w s) : va_Nw w U := by
  have := (List.mem_filter.mp h).2
  unfold znwb at this
  split at this
  · exact va_Nw.warmF hW hZ
  · exact va_Nw.warmM hW hZ
  · cases this
def zty (G : ZG) : List (ClassId × FieldType) := [(G.2.2.1 0, .int), (G.2.2.1 1, .long), (G.2.2.1 2, .boolean), (G.2.2.1 3, .object "CornerstoneSought$Stone"), (G.2.2.1 4, .object "CornerstoneSought$Shelf")]
def zK (G : ZG) (U : State) : Prop := va_K G.2.1 vwCl (zty G) U ∧ (∀ w ∈ znw, va_Nw w U) ∧ zInj G
theorem zK.warm {G : ZG} {s U : State} (hW : s.WarmedH U.vm) (h : zK G s) : zK G U := ⟨va_K.moved hW.alike h.1, fun w hw => znw_warm hw hW (h.2.1 w hw), h.2.2⟩
theorem zK.same {G : ZG} {s U : State} (hv : s.vm = U.vm) (h : zK G s) : zK G U := ⟨va_K.moved (by rw [hv]; exact Vm.Alike.refl _) h.1, fun w hw => va_Nw.same (znw_on hw) hv (h.2.1 w hw), h.2.2⟩
/-- the one static table -/
def zbes (j : Nat) : Int32 := ([2, 5, 10, 4, 32, 80, 160, 64, 512, 1280, 2560, 1024] : List Int32).getD j 0
def zSt (G : ZG) (U : State) (H : Heap) : Prop := va_Z "CornerstoneSought" "BESIDE" "[I" (.ref (G.2.2.2 26 0)) (zA G) U H ∧ va_T .int (G.2.2.2 26 0) 12 (fun j => .int (zbes j)) (zA G) U H
theorem zSt.moved {G : ZG} {u U : State} {H : Heap} (hvm : u.vm.Alike U.vm) (h : zSt G u H) : zSt G U H := ⟨va_Z.moved hvm h.1, va_T.moved hvm h.2⟩
theorem zSt.kept {G : ZG} {U : State} {H H1 : Heap} (h : zSt G U H) (hq : ∀ a : Nat, a < H.size → ¬ zA G a → H1[a]? = H[a]?) : zSt G U H1 := ⟨h.1.kept hq, h.2.kept hq⟩
def zrm (d : Nat) : Room := { frames := d, cells := 0, slots := 0, locals := 48 * d }
/-- where a method ends: what it answers, the picture behind it, and that nothing else changed -/
def zQ (G : ZG) (Q : Option ZV → ZH → Prop) : Array Value → State → Outcome → State → Prop := fun _ st oc t => (∃ (r : Option ZV) (h : ZH), oc = .returned (r.map (zc G)) ∧ Q r h ∧ zW G h t.heap) ∧ va_F (zA G) st t
def zPc (G : ZG) (as : List ZV) (h : ZH) : Array Value → State → Prop := va_Pc (as.map (zc G)) (fun U => zW G h U.heap ∧ zK G U ∧ zSt G U U.heap)
theorem zPc_blind (G : ZG) (as : List ZV) (h : ZH) : FrameBlind (zPc G as h) := by
  intro a U g mk hp
  obtain ⟨h1, h2, h3, h4⟩ := hp
  exact ⟨h1, h2, zK.same (s := U) (U := U.calling g mk a) rfl h3, zSt.moved (u := U) (U := U.calling g mk a) (Vm.Alike.refl U.vm) h4⟩
def zws (M : ZM) : List Cond := .code M.1 M.2.1 M.2.2.1 M.2.2.2 :: zall
def zC (G : ZG) (d : Nat) (M : ZM) (as : List ZV) (h : ZH) (Q : Option ZV → ZH → Prop) : Prop := Met G.1 M.1 (zws M) (zrm d) (zPc G as h) (zQ G Q) 0 0 (zA G)
/-- the locals of a frame -/
def zlo (G : ZG) (ls : Array Slot) (nL : Nat) (L : List ZV) : Prop := ls.size = nL ∧ lv_wf ls ∧ ∀ (i : Nat) (v : ZV), L[i]? = some v → v ≠ zu → ls[i]? = some (.val (zc G v))
def zX (G : ZG) (M : ZM) (p : Program) (s : State) (m : MethodId) (args : Array Value) (meth : Method) (c : Code) : Prop :=
  p.tables.exec = Jvm.exec ∧ c.code = M.2.1 ∧ c.maxLocals = M.2.2.1 ∧ meth.sig.returnType = M.2.2.2 ∧ (∀ w ∈ zall, w.before args s = true) ∧ s.vm.findClass M.1.cls = some m.cls ∧ meth.locks = false ∧ zK G s ∧ zSt G s s.heap
def zT (G : ZG) (d : Nat) (M : ZM) (pc : Nat) (L S : List ZV) (h : ZH) (Q : Option ZV → ZH → Prop) : Prop :=
  ∀ (p : Program) (e : Env) (s : State) (m : MethodId) (args : Array Value) (below : List Frame) (meth : Method) (c : Code) (H : Heap) (locs : List Loc) (ls : Array Slot),
    zX G M p s m args meth c → va_S (zA G) s.heap H locs → zW G h H → zlo G ls M.2.2.1 L →
    W p G.1 e (zrm d) s m args below meth c H locs 0 0 (MQ below (zQ G Q) args s 0 0 (zA G)) (F0 m pc ls (S.map (zc G)))
/-- the list of locals that the arguments make -/
def zargs : List ZV → List ZV
  | [] => []
  | Sum.inr (Sum.inl x) :: as => zl x :: zu :: zargs as
  | v :: as => v :: zargs as
theorem zargs_sl (G : ZG) : ∀ (as : List ZV) (i : Nat) (v : ZV), (zargs as)[i]? = some v → v ≠ zu → (lg_sl (as.map (zc G)))[i]? = some (.val (zc G v)) := by
  intro as
  induction as with
  | nil => intro i v h; simp [zargs] at h
  | cons a as ih =>
    intro i v h hv
    rcases a with x | x | q | u
    · cases i with
      | zero => simp only [zargs, List.getElem?_cons_zero, Option.some.injEq] at h; subst h; rfl
      | succ i => simp only [zargs, List.getElem?_cons_succ] at h; have := ih i v h hv; simpa [lg_sl, zc, Value.category] using this
    · cases i with
      | zero => simp only [zargs, List.getElem?_cons_zero, Option.some.injEq] at h; subst h; rfl
      | succ i =>
        cases i with
        | zero => simp only [zargs, List.getElem?_cons_succ, List.getElem?_cons_zero, Option.some.injEq] at h; exact absurd h.symm hv
        | succ i => simp only [zargs, List.getElem?_cons_succ] at h; have := ih i v h hv; simpa [lg_sl, zc, Value.category] using this
    · cases i with
      | zero => simp only [zargs, List.getElem?_cons_zero, Option.some.injEq] at h; subst h; rfl
      | succ i => simp only [zargs, List.getElem?_cons_succ] at h; have := ih i v h hv; simpa [lg_sl, zc, Value.category] using this
    · cases i with
      | zero => simp only [zargs, List.getElem?_cons_zero, Option.some.injEq] at h; exact absurd h.symm hv
      | succ i => simp only [zargs, List.getElem?_cons_succ] at h; have := ih i v h hv; simpa [lg_sl, zc, Value.category] using this
theorem zlo_sub {G : ZG} {ls : Array Slot} {nL : Nat} {L L' : List ZV} (h : zlo G ls nL L) (hs : ∀ (i : Nat) (v : ZV), L'[i]? = some v → v ≠ zu → L[i]? = some v) : zlo G ls nL L' := ⟨h.1, h.2.1, fun i v hi hv => h.2.2 i v (hs i v hi hv) hv⟩
/-- L' says no more than L -/
def zleb : List ZV → List ZV → Prop
  | [], _ => True
  | Sum.inr (Sum.inr (Sum.inr _)) :: L', L => zleb L' L.tail
  | v :: L', L => L.head? = some v ∧ zleb L' L.tail
theorem zleb_get : ∀ (L' L : List ZV), zleb L' L → ∀ (i : Nat) (v : ZV), L'[i]? = some v → v ≠ zu → L[i]? = some v := by
  intro L'
  induction L' with
  | nil => intro L _ i v h; simp at h
  | cons a L' ih =>
    intro L hL i v h hv
    have key : a ≠ zu → L.head? = some a ∧ zleb L' L.tail := by
      intro ha
      rcases a with x | x | q | u
      · exact hL
      · exact hL
      · exact hL
      · exact absurd rfl ha
    have tl : zleb L' L.tail := by
      rcases a with x | x | q | u
      · exact hL.2
      · exact hL.2
      · exact hL.2
      · exact hL
    cases i with
    | zero =>
      simp only [List.getElem?_cons_zero, Option.some.injEq] at h
      subst h
      have := (key hv).1
      cases L with
      | nil => simp at this
      | cons b L => simpa using this
    | succ i =>
      simp only [List.getElem?_cons_succ] at h
      have := ih L.tail tl i v h hv
      cases L with
      | nil => simp at this
      | cons b L => simpa using this
theorem zargs_len (G : ZG) : ∀ (as : List ZV), (lg_sl (as.map (zc G))).length = (zargs as).length := by
  intro as
  induction as with
  | nil => rfl
  | cons a as ih =>
    rcases a with x | x | q | u
    · simpa [lg_sl, zc, Value.category, zargs] using ih
    · simpa [lg_sl, zc, Value.category, zargs] using ih
    · simpa [lg_sl, zc, Value.category, zargs] using ih
    · simpa [lg_sl, zc, Value.category, zargs] using ih
/-- a method's contract out of its entry -/
theorem zC_of {G : ZG} {d : Nat} {M : ZM} {as L : List ZV} {h : ZH} {Q : Option ZV → ZH → Prop} (hy : plainName M.1.cls = true) (hn : (zargs as).length ≤ M.2.2.1) (hL : zleb L (zargs as)) (k : zT G d M 0 L [] h Q) : zC G d M as h Q := by
  refine Met.ofW (cc := M.2.1) (maxL := M.2.2.1) (ret := M.2.2.2) hy rfl ?_
  intro p e s m args below meth c s₁ B hml hv
  obtain ⟨rfl, hW, hK, hSt⟩ := hv
  have hts := atoms_spec (ws := zws M) B.pre
  have hX : zX G M p s m (as.map (zc G)).toArray meth c := ⟨B.exec, B.bytes, hml, B.returns, fun w hw => hts w (List.mem_cons_of_mem _ hw), findClass_of_methodNamed B.named, B.notSynchronized, hK, hSt⟩
  rw [lg_entry_eq]
  have hl := lv_entry (as.map (zc G)) (n := M.2.2.1) (by rw [zargs_len]; exact hn)
  refine k p e s m _ below meth c s.heap [] _ hX va_S.rf hW ?_
  refine zlo_sub ?_ (zleb_get L (zargs as) hL)
  refine ⟨hl.1, hl.2.1, fun i v hi hv => ?_⟩
  have h1 := zargs_sl G as i v hi hv
  have h2 : i < (lg_sl (as.map (zc G))).length := (List.getElem?_eq_some_iff.mp h1).1
  rw [List.getElem?_toArray, List.getElem?_append_left h2]
  exact h1
theorem zC_mono {G : ZG} {d : Nat} {M : ZM} {as : List ZV} {h : ZH} {Q Q' : Option ZV → ZH → Prop} (k : zC G d M as h Q) (hq : ∀ r h', Q r h' → Q' r h') : zC G d M as h Q' := by
  intro p e h1 h2 h3 s m args below h4 h5 h6 h7
  obtain ⟨n, o, a1, a2, a3, ⟨⟨r, h', b1, b2, b3⟩, b4⟩, a5⟩ := k p e h1 h2 h3 s m args below h4 h5 h6 h7
  exact ⟨n, o, a1, a2, a3, ⟨⟨r, h', b1, hq r h' b2, b3⟩, b4⟩, a5⟩
theorem zT_mono {G : ZG} {d : Nat} {M : ZM} {pc : Nat} {L S : List ZV} {h : ZH} {Q Q' : Option ZV → ZH → Prop} (k : zT G d M pc L S h Q) (hq : ∀ r h', Q r h' → Q' r h') : zT G d M pc L S h Q' := by
  intro p e s m args below meth c H locs ls hX hS hW hL T hT X
  obtain ⟨t, a1, o, a2, a3, ⟨⟨r, h', b1, b2, b3⟩, b4⟩, a5⟩ := k p e s m args below meth c H locs ls hX hS hW hL T hT X
  exact ⟨t, a1, o, a2, a3, ⟨⟨r, h', b1, hq r h' b2, b3⟩, b4⟩, a5⟩
/-- the same frame with fewer locals told -/
theorem zt_sub {G : ZG} {d : Nat} {M : ZM} {pc : Nat} {L S : List ZV} {h : ZH} {Q : Option ZV → ZH → Prop} (L' : List ZV) (hs : zleb L' L) (k : zT G d M pc L' S h Q) : zT G d M pc L S h Q :=
  fun p e s m args below meth c H locs ls hX hS hW hL => k p e s m args below meth c H locs ls hX hS hW (zlo_sub hL (zleb_get L' L hs))
