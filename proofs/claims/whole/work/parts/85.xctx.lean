/-! ===== frames that throw and catch: the words, the judgement xT ===== -/
def xIS : String := "java/lang/IllegalStateException"
def xIA : String := "java/lang/IllegalArgumentException"
def xUO : String := "java/lang/UnsupportedOperationException"
def xNs : List String := ["java/lang/RuntimeException", "java/lang/Exception"]
def xdec : List MethodName := [⟨"java/lang/RuntimeException", "<init>", "()V"⟩, ⟨"java/lang/RuntimeException", "<init>", "(Ljava/lang/String;)V"⟩, ⟨"java/lang/Exception", "<init>", "()V"⟩, ⟨"java/lang/Exception", "<init>", "(Ljava/lang/String;)V"⟩, ⟨"java/lang/Throwable", "<init>", "()V"⟩, ⟨"java/lang/Throwable", "<init>", "(Ljava/lang/String;)V"⟩]
def xcas : List String := [xIS, xIA, xUO]
def xnc : List (String × String) := [(xIS, xUO), (xIS, xIA), (xIA, xUO)]
def xstr : List (String × Nat × String) := [(RX2, 19, "a corner fails"), (RX9, 16, "a step fails"), (RX10, 11, "a stone fails"), (RX11, 303, "no such shelf"), (RX11, 314, "no row"), (RX11, 317, "no such place")]
def xcK (G : ZG) (U : State) : Prop := G.1.stackTraces = false ∧ (∀ x ∈ xdec, va_Nw (.declares x) U) ∧ (∀ X ∈ xcas, va_Nw (.castable X X) U) ∧ (∀ q ∈ xnc, va_Nc q.1 q.2 U) ∧ ∀ q ∈ xstr, ∃ a, vk_R q.1 q.2.1 q.2.2 a U
theorem xcK.warm {G : ZG} {s U : State} (hW : s.WarmedH U.vm) (h : xcK G s) : xcK G U :=
  ⟨h.1, fun x hx => va_Nw.warmD hW (h.2.1 x hx), fun x hx => va_Nw.warmC hW (h.2.2.1 x hx), fun q hq => va_Nc.moved hW.alike (h.2.2.2.1 q hq), fun q hq => by
    obtain ⟨a, ha⟩ := h.2.2.2.2 q hq
    exact ⟨a, vk_R.warm hW ha⟩⟩
theorem xcK.same {G : ZG} {s U : State} (hv : s.vm = U.vm) (h : xcK G s) : xcK G U :=
  ⟨h.1, fun x hx => va_Nw.same rfl hv (h.2.1 x hx), fun x hx => va_Nw.same rfl hv (h.2.2.1 x hx), fun q hq => va_Nc.moved (by rw [hv]; exact Vm.Alike.refl _) (h.2.2.2.1 q hq), fun q hq => by
    obtain ⟨a, ha⟩ := h.2.2.2.2 q hq
    exact ⟨a, vk_R.same hv.symm ha⟩⟩
def xcH (G : ZG) (U : State) (H : Heap) : Prop := vx_Zq Bundle.tN "UNASSIGNED_STACK" Bundle.steD (zA G) U H ∧ vx_Zq Bundle.tN "SUPPRESSED_SENTINEL" Bundle.listD (zA G) U H
theorem xcH.moved {G : ZG} {u U : State} {H : Heap} (hvm : u.vm.Alike U.vm) (h : xcH G u H) : xcH G U H := ⟨vx_Zq.moved hvm h.1, vx_Zq.moved hvm h.2⟩
theorem xcH.kept {G : ZG} {U : State} {H H1 : Heap} (h : xcH G U H) (hq : ∀ a : Nat, a < H.size → ¬ zA G a → H1[a]? = H[a]?) : xcH G U H1 := ⟨h.1.kept hq, h.2.kept hq⟩
abbrev XP : Type := State → Array Value → Code → Prop
def xX (G : ZG) (M : ZM) (K : XP) (p : Program) (s : State) (m : MethodId) (args : Array Value) (meth : Method) (c : Code) : Prop := zX G M p s m args meth c ∧ xcK G s ∧ xcH G s s.heap ∧ K s args c
def xAA (G : ZG) (A : Nat → Prop) (s : State) : Prop := (∀ q, zA G q → A q) ∧ ∀ q, q < s.heap.size → A q → zA G q
def xT (G : ZG) (R : Room) (A : State → Nat → Prop) (Z : NZ) (K : XP) (M : ZM) (pc : Nat) (L S : List ZV) (h : ZH) (cells slots : Nat) : Prop :=
  ∀ (p : Program) (e : Env) (s : State) (m : MethodId) (args : Array Value) (below : List Frame) (meth : Method) (c : Code) (H : Heap) (locs : List Loc) (ls : Array Slot),
    xX G M K p s m args meth c → xAA G (A s) s → va_S (A s) s.heap H locs → zW G h H → zlo G ls M.2.2.1 L →
    W p G.1 e R s m args below meth c H locs cells slots (Z below args s) (F0 m pc ls (S.map (zc G)))
theorem xS {G : ZG} {A : Nat → Prop} {s : State} {H : Heap} {locs : List Loc} (hA : xAA G A s) (hS : va_S A s.heap H locs) : ∀ a : Nat, a < s.heap.size → ¬ zA G a → H[a]? = s.heap[a]? := fun q hq hz => hS.2.1 q hq (fun z => hz (hA.2 q hq z))
theorem xt_iadd {G : ZG} {R : Room} {A : State → Nat → Prop} {Z : NZ} {K : XP} {cells slots : Nat} {M : ZM} {pc pc' : Nat} {L S : List ZV} {h : ZH} {x y : Int32} (hd : zD M.2.1 pc pc' .iadd 1) (k : xT G R A Z K M pc' L (zi (x + y) :: S) h cells slots) : xT G R A Z K M pc L (zi y :: zi x :: S) h cells slots := by
  obtain ⟨hd, rfl⟩ := hd
  intro p e s m args below meth c H locs ls hX hA hS hW hL
  obtain ⟨hx, hb, hml, hr, hts, hown, hlk, hK, hSt⟩ := id hX.1
  exact lv_iadd hx hb hd (k p e s m args below meth c H locs ls hX hA hS hW hL)
theorem xt_isub {G : ZG} {R : Room} {A : State → Nat → Prop} {Z : NZ} {K : XP} {cells slots : Nat} {M : ZM} {pc pc' : Nat} {L S : List ZV} {h : ZH} {x y : Int32} (hd : zD M.2.1 pc pc' .isub 1) (k : xT G R A Z K M pc' L (zi (x - y) :: S) h cells slots) : xT G R A Z K M pc L (zi y :: zi x :: S) h cells slots := by
  obtain ⟨hd, rfl⟩ := hd
  intro p e s m args below meth c H locs ls hX hA hS hW hL
  obtain ⟨hx, hb, hml, hr, hts, hown, hlk, hK, hSt⟩ := id hX.1
  exact lv_isub hx hb hd (k p e s m args below meth c H locs ls hX hA hS hW hL)
theorem xt_iand {G : ZG} {R : Room} {A : State → Nat → Prop} {Z : NZ} {K : XP} {cells slots : Nat} {M : ZM} {pc pc' : Nat} {L S : List ZV} {h : ZH} {x y : Int32} (hd : zD M.2.1 pc pc' .iand 1) (k : xT G R A Z K M pc' L (zi (x &&& y) :: S) h cells slots) : xT G R A Z K M pc L (zi y :: zi x :: S) h cells slots := by
  obtain ⟨hd, rfl⟩ := hd
  intro p e s m args below meth c H locs ls hX hA hS hW hL
  obtain ⟨hx, hb, hml, hr, hts, hown, hlk, hK, hSt⟩ := id hX.1
  exact lv_iand hx hb hd (k p e s m args below meth c H locs ls hX hA hS hW hL)
theorem xt_iconst {G : ZG} {R : Room} {A : State → Nat → Prop} {Z : NZ} {K : XP} {cells slots : Nat} {M : ZM} {pc pc' : Nat} {L S : List ZV} {h : ZH} {n : Int} {v : Int32} (hd : zD M.2.1 pc pc' (.iconst n) 1) (hv : Int32.ofInt n = v) (k : xT G R A Z K M pc' L (zi v :: S) h cells slots) : xT G R A Z K M pc L S h cells slots := by
  obtain ⟨hd, rfl⟩ := hd
  intro p e s m args below meth c H locs ls hX hA hS hW hL
  obtain ⟨hx, hb, hml, hr, hts, hown, hlk, hK, hSt⟩ := id hX.1
  exact lv_iconst hx hb hd hv (k p e s m args below meth c H locs ls hX hA hS hW hL)
theorem xt_bipush {G : ZG} {R : Room} {A : State → Nat → Prop} {Z : NZ} {K : XP} {cells slots : Nat} {M : ZM} {pc pc' : Nat} {L S : List ZV} {h : ZH} {n : Int} {v : Int32} (hd : zD M.2.1 pc pc' (.bipush n) 2) (hv : (Int8.ofInt n).toInt32 = v) (k : xT G R A Z K M pc' L (zi v :: S) h cells slots) : xT G R A Z K M pc L S h cells slots := by
  obtain ⟨hd, rfl⟩ := hd
  intro p e s m args below meth c H locs ls hX hA hS hW hL
  obtain ⟨hx, hb, hml, hr, hts, hown, hlk, hK, hSt⟩ := id hX.1
  exact lv_bipush hx hb hd hv (k p e s m args below meth c H locs ls hX hA hS hW hL)
theorem xt_sipush {G : ZG} {R : Room} {A : State → Nat → Prop} {Z : NZ} {K : XP} {cells slots : Nat} {M : ZM} {pc pc' : Nat} {L S : List ZV} {h : ZH} {n : Int} {v : Int32} (hd : zD M.2.1 pc pc' (.sipush n) 3) (hv : (Int16.ofInt n).toInt32 = v) (k : xT G R A Z K M pc' L (zi v :: S) h cells slots) : xT G R A Z K M pc L S h cells slots := by
  obtain ⟨hd, rfl⟩ := hd
  intro p e s m args below meth c H locs ls hX hA hS hW hL
  obtain ⟨hx, hb, hml, hr, hts, hown, hlk, hK, hSt⟩ := id hX.1
  exact lv_sipush hx hb hd hv (k p e s m args below meth c H locs ls hX hA hS hW hL)
theorem xt_iload_n {G : ZG} {R : Room} {A : State → Nat → Prop} {Z : NZ} {K : XP} {cells slots : Nat} {M : ZM} {pc pc' : Nat} {L S : List ZV} {h : ZH} {n : Fin 4} {x : Int32} (hd : zD M.2.1 pc pc' (.iload_n n) 1) (hl : L[(n : Nat)]? = some (zi x)) (k : xT G R A Z K M pc' L (zi x :: S) h cells slots) : xT G R A Z K M pc L S h cells slots := by
  obtain ⟨hd, rfl⟩ := hd
  intro p e s m args below meth c H locs ls hX hA hS hW hL
  obtain ⟨hx, hb, hml, hr, hts, hown, hlk, hK, hSt⟩ := id hX.1
  exact lv_iload_n hx hb hd rfl (hL.2.2 _ _ hl (by intro q; cases q)) (k p e s m args below meth c H locs ls hX hA hS hW hL)
theorem xt_iload {G : ZG} {R : Room} {A : State → Nat → Prop} {Z : NZ} {K : XP} {cells slots : Nat} {M : ZM} {pc pc' : Nat} {L S : List ZV} {h : ZH} {n : Nat} {x : Int32} (hd : zD M.2.1 pc pc' (.iload n) 2) (hl : L[n]? = some (zi x)) (k : xT G R A Z K M pc' L (zi x :: S) h cells slots) : xT G R A Z K M pc L S h cells slots := by
  obtain ⟨hd, rfl⟩ := hd
  intro p e s m args below meth c H locs ls hX hA hS hW hL
  obtain ⟨hx, hb, hml, hr, hts, hown, hlk, hK, hSt⟩ := id hX.1
  exact lv_iload hx hb hd (hL.2.2 _ _ hl (by intro q; cases q)) (k p e s m args below meth c H locs ls hX hA hS hW hL)
theorem xt_lload_n {G : ZG} {R : Room} {A : State → Nat → Prop} {Z : NZ} {K : XP} {cells slots : Nat} {M : ZM} {pc pc' : Nat} {L S : List ZV} {h : ZH} {n : Fin 4} {x : Int64} (hd : zD M.2.1 pc pc' (.lload_n n) 1) (hl : L[(n : Nat)]? = some (zl x)) (k : xT G R A Z K M pc' L (zl x :: S) h cells slots) : xT G R A Z K M pc L S h cells slots := by
  obtain ⟨hd, rfl⟩ := hd
  intro p e s m args below meth c H locs ls hX hA hS hW hL
  obtain ⟨hx, hb, hml, hr, hts, hown, hlk, hK, hSt⟩ := id hX.1
  exact lv_lload_n hx hb hd rfl (hL.2.2 _ _ hl (by intro q; cases q)) (k p e s m args below meth c H locs ls hX hA hS hW hL)
theorem xt_lload {G : ZG} {R : Room} {A : State → Nat → Prop} {Z : NZ} {K : XP} {cells slots : Nat} {M : ZM} {pc pc' : Nat} {L S : List ZV} {h : ZH} {n : Nat} {x : Int64} (hd : zD M.2.1 pc pc' (.lload n) 2) (hl : L[n]? = some (zl x)) (k : xT G R A Z K M pc' L (zl x :: S) h cells slots) : xT G R A Z K M pc L S h cells slots := by
  obtain ⟨hd, rfl⟩ := hd
  intro p e s m args below meth c H locs ls hX hA hS hW hL
  obtain ⟨hx, hb, hml, hr, hts, hown, hlk, hK, hSt⟩ := id hX.1
  exact lv_lload hx hb hd (hL.2.2 _ _ hl (by intro q; cases q)) (k p e s m args below meth c H locs ls hX hA hS hW hL)
theorem xt_aload_n {G : ZG} {R : Room} {A : State → Nat → Prop} {Z : NZ} {K : XP} {cells slots : Nat} {M : ZM} {pc pc' : Nat} {L S : List ZV} {h : ZH} {n : Fin 4} {a b : Nat} (hd : zD M.2.1 pc pc' (.aload_n n) 1) (hl : L[(n : Nat)]? = some (zr a b)) (k : xT G R A Z K M pc' L (zr a b :: S) h cells slots) : xT G R A Z K M pc L S h cells slots := by
  obtain ⟨hd, rfl⟩ := hd
  intro p e s m args below meth c H locs ls hX hA hS hW hL
  obtain ⟨hx, hb, hml, hr, hts, hown, hlk, hK, hSt⟩ := id hX.1
  exact lv_aload_n hx hb hd rfl (hL.2.2 _ _ hl (by intro q; cases q)) (k p e s m args below meth c H locs ls hX hA hS hW hL)
theorem xt_aload {G : ZG} {R : Room} {A : State → Nat → Prop} {Z : NZ} {K : XP} {cells slots : Nat} {M : ZM} {pc pc' : Nat} {L S : List ZV} {h : ZH} {n : Nat} {a b : Nat} (hd : zD M.2.1 pc pc' (.aload n) 2) (hl : L[n]? = some (zr a b)) (k : xT G R A Z K M pc' L (zr a b :: S) h cells slots) : xT G R A Z K M pc L S h cells slots := by
  obtain ⟨hd, rfl⟩ := hd
  intro p e s m args below meth c H locs ls hX hA hS hW hL
  obtain ⟨hx, hb, hml, hr, hts, hown, hlk, hK, hSt⟩ := id hX.1
  exact lv_aload hx hb hd (hL.2.2 _ _ hl (by intro q; cases q)) (k p e s m args below meth c H locs ls hX hA hS hW hL)
theorem xt_istore_n {G : ZG} {R : Room} {A : State → Nat → Prop} {Z : NZ} {K : XP} {cells slots : Nat} {M : ZM} {pc pc' : Nat} {L S : List ZV} {h : ZH} {L' : List ZV} {n : Fin 4} {x : Int32} (hd : zD M.2.1 pc pc' (.istore_n n) 1) (hn : (n : Nat) < M.2.2.1) (hl : zst1 L (n : Nat) (zi x) = L') (k : xT G R A Z K M pc' L' S h cells slots) : xT G R A Z K M pc L (((zi x)) :: S) h cells slots := by
  obtain ⟨hd, rfl⟩ := hd
  intro p e s m args below meth c H locs ls hX hA hS hW hL
  obtain ⟨hx, hb, hml, hr, hts, hown, hlk, hK, hSt⟩ := id hX.1
  subst hl
  exact lv_istore_n hx hb hd rfl (zas_has hL) hn rfl (fun ls h1 => k p e s m args below meth c H locs ls hX hA hS hW (zlo_st1 (v := (zi x)) h1))
theorem xt_istore {G : ZG} {R : Room} {A : State → Nat → Prop} {Z : NZ} {K : XP} {cells slots : Nat} {M : ZM} {pc pc' : Nat} {L S : List ZV} {h : ZH} {L' : List ZV} {n : Nat} {x : Int32} (hd : zD M.2.1 pc pc' (.istore n) 2) (hn : n < M.2.2.1) (hl : zst1 L n (zi x) = L') (k : xT G R A Z K M pc' L' S h cells slots) : xT G R A Z K M pc L (((zi x)) :: S) h cells slots := by
  obtain ⟨hd, rfl⟩ := hd
  intro p e s m args below meth c H locs ls hX hA hS hW hL
  obtain ⟨hx, hb, hml, hr, hts, hown, hlk, hK, hSt⟩ := id hX.1
  subst hl
  exact lv_istore hx hb hd (zas_has hL) hn rfl (fun ls h1 => k p e s m args below meth c H locs ls hX hA hS hW (zlo_st1 (v := (zi x)) h1))
theorem xt_astore_n {G : ZG} {R : Room} {A : State → Nat → Prop} {Z : NZ} {K : XP} {cells slots : Nat} {M : ZM} {pc pc' : Nat} {L S : List ZV} {h : ZH} {L' : List ZV} {n : Fin 4} {a b : Nat} (hd : zD M.2.1 pc pc' (.astore_n n) 1) (hn : (n : Nat) < M.2.2.1) (hl : zst1 L (n : Nat) (zr a b) = L') (k : xT G R A Z K M pc' L' S h cells slots) : xT G R A Z K M pc L (((zr a b)) :: S) h cells slots := by
  obtain ⟨hd, rfl⟩ := hd
  intro p e s m args below meth c H locs ls hX hA hS hW hL
  obtain ⟨hx, hb, hml, hr, hts, hown, hlk, hK, hSt⟩ := id hX.1
  subst hl
  exact lv_astore_n hx hb hd rfl (zas_has hL) hn rfl (fun ls h1 => k p e s m args below meth c H locs ls hX hA hS hW (zlo_st1 (v := (zr a b)) h1))
theorem xt_iinc {G : ZG} {R : Room} {A : State → Nat → Prop} {Z : NZ} {K : XP} {cells slots : Nat} {M : ZM} {pc pc' : Nat} {L S : List ZV} {h : ZH} {L' : List ZV} {i : Nat} {n : Int} {x v : Int32} (hd : zD M.2.1 pc pc' (.iinc i n) 3) (hi : L[i]? = some (zi x)) (hv : x + Int32.ofInt n = v) (hn : i < M.2.2.1) (hl : zst1 L i (zi v) = L') (k : xT G R A Z K M pc' L' S h cells slots) : xT G R A Z K M pc L S h cells slots := by
  obtain ⟨hd, rfl⟩ := hd
  intro p e s m args below meth c H locs ls hX hA hS hW hL
  obtain ⟨hx, hb, hml, hr, hts, hown, hlk, hK, hSt⟩ := id hX.1
  subst hl
  obtain ⟨q, hq⟩ := List.getElem?_of_mem (zas_mem G hi (by intro q; cases q))
  exact lv_iinc hx hb hd (zas_has hL) hq hv hn rfl (fun ls h1 => k p e s m args below meth c H locs ls hX hA hS hW (zlo_st1 (v := zi v) h1))
theorem xt_icmp_eq {G : ZG} {R : Room} {A : State → Nat → Prop} {Z : NZ} {K : XP} {cells slots : Nat} {M : ZM} {pc pc' tgt : Nat} {L S : List ZV} {h : ZH} {x y : Int32} {off : Int} (hd : zB M.2.1 pc pc' tgt (.if_icmp .eq off) off) (kt : x = y → xT G R A Z K M tgt L S h cells slots) (kf : ¬ x = y → xT G R A Z K M pc' L S h cells slots) : xT G R A Z K M pc L (zi y :: zi x :: S) h cells slots := by
  obtain ⟨hd, rfl, ht⟩ := hd
  intro p e s m args below meth c H locs ls hX hA hS hW hL
  obtain ⟨hx, hb, hml, hr, hts, hown, hlk, hK, hSt⟩ := id hX.1
  exact lv_icmp_eq hx hb hd ht (fun q => kt q p e s m args below meth c H locs ls hX hA hS hW hL) (fun q => kf q p e s m args below meth c H locs ls hX hA hS hW hL)
theorem xt_icmp_ne {G : ZG} {R : Room} {A : State → Nat → Prop} {Z : NZ} {K : XP} {cells slots : Nat} {M : ZM} {pc pc' tgt : Nat} {L S : List ZV} {h : ZH} {x y : Int32} {off : Int} (hd : zB M.2.1 pc pc' tgt (.if_icmp .ne off) off) (kt : ¬ x = y → xT G R A Z K M tgt L S h cells slots) (kf : x = y → xT G R A Z K M pc' L S h cells slots) : xT G R A Z K M pc L (zi y :: zi x :: S) h cells slots := by
  obtain ⟨hd, rfl, ht⟩ := hd
  intro p e s m args below meth c H locs ls hX hA hS hW hL
  obtain ⟨hx, hb, hml, hr, hts, hown, hlk, hK, hSt⟩ := id hX.1
  exact lv_icmp_ne hx hb hd ht (fun q => kt q p e s m args below meth c H locs ls hX hA hS hW hL) (fun q => kf q p e s m args below meth c H locs ls hX hA hS hW hL)
theorem xt_icmp_lt {G : ZG} {R : Room} {A : State → Nat → Prop} {Z : NZ} {K : XP} {cells slots : Nat} {M : ZM} {pc pc' tgt : Nat} {L S : List ZV} {h : ZH} {x y : Int32} {off : Int} (hd : zB M.2.1 pc pc' tgt (.if_icmp .lt off) off) (kt : x < y → xT G R A Z K M tgt L S h cells slots) (kf : ¬ x < y → xT G R A Z K M pc' L S h cells slots) : xT G R A Z K M pc L (zi y :: zi x :: S) h cells slots := by
  obtain ⟨hd, rfl, ht⟩ := hd
  intro p e s m args below meth c H locs ls hX hA hS hW hL
  obtain ⟨hx, hb, hml, hr, hts, hown, hlk, hK, hSt⟩ := id hX.1
  exact lv_icmp_lt hx hb hd ht (fun q => kt q p e s m args below meth c H locs ls hX hA hS hW hL) (fun q => kf q p e s m args below meth c H locs ls hX hA hS hW hL)
theorem xt_icmp_ge {G : ZG} {R : Room} {A : State → Nat → Prop} {Z : NZ} {K : XP} {cells slots : Nat} {M : ZM} {pc pc' tgt : Nat} {L S : List ZV} {h : ZH} {x y : Int32} {off : Int} (hd : zB M.2.1 pc pc' tgt (.if_icmp .ge off) off) (kt : y ≤ x → xT G R A Z K M tgt L S h cells slots) (kf : ¬ y ≤ x → xT G R A Z K M pc' L S h cells slots) : xT G R A Z K M pc L (zi y :: zi x :: S) h cells slots := by
  obtain ⟨hd, rfl, ht⟩ := hd
  intro p e s m args below meth c H locs ls hX hA hS hW hL
  obtain ⟨hx, hb, hml, hr, hts, hown, hlk, hK, hSt⟩ := id hX.1
  exact lv_icmp_ge hx hb hd ht (fun q => kt q p e s m args below meth c H locs ls hX hA hS hW hL) (fun q => kf q p e s m args below meth c H locs ls hX hA hS hW hL)
theorem xt_icmp_gt {G : ZG} {R : Room} {A : State → Nat → Prop} {Z : NZ} {K : XP} {cells slots : Nat} {M : ZM} {pc pc' tgt : Nat} {L S : List ZV} {h : ZH} {x y : Int32} {off : Int} (hd : zB M.2.1 pc pc' tgt (.if_icmp .gt off) off) (kt : y < x → xT G R A Z K M tgt L S h cells slots) (kf : ¬ y < x → xT G R A Z K M pc' L S h cells slots) : xT G R A Z K M pc L (zi y :: zi x :: S) h cells slots := by
  obtain ⟨hd, rfl, ht⟩ := hd
  intro p e s m args below meth c H locs ls hX hA hS hW hL
  obtain ⟨hx, hb, hml, hr, hts, hown, hlk, hK, hSt⟩ := id hX.1
  exact lv_icmp_gt hx hb hd ht (fun q => kt q p e s m args below meth c H locs ls hX hA hS hW hL) (fun q => kf q p e s m args below meth c H locs ls hX hA hS hW hL)
theorem xt_icmp_le {G : ZG} {R : Room} {A : State → Nat → Prop} {Z : NZ} {K : XP} {cells slots : Nat} {M : ZM} {pc pc' tgt : Nat} {L S : List ZV} {h : ZH} {x y : Int32} {off : Int} (hd : zB M.2.1 pc pc' tgt (.if_icmp .le off) off) (kt : x ≤ y → xT G R A Z K M tgt L S h cells slots) (kf : ¬ x ≤ y → xT G R A Z K M pc' L S h cells slots) : xT G R A Z K M pc L (zi y :: zi x :: S) h cells slots := by
  obtain ⟨hd, rfl, ht⟩ := hd
  intro p e s m args below meth c H locs ls hX hA hS hW hL
  obtain ⟨hx, hb, hml, hr, hts, hown, hlk, hK, hSt⟩ := id hX.1
  exact lv_icmp_le hx hb hd ht (fun q => kt q p e s m args below meth c H locs ls hX hA hS hW hL) (fun q => kf q p e s m args below meth c H locs ls hX hA hS hW hL)
theorem xt_if_eq {G : ZG} {R : Room} {A : State → Nat → Prop} {Z : NZ} {K : XP} {cells slots : Nat} {M : ZM} {pc pc' tgt : Nat} {L S : List ZV} {h : ZH} {x : Int32} {off : Int} (hd : zB M.2.1 pc pc' tgt (.ifCond .eq off) off) (kt : x = 0 → xT G R A Z K M tgt L S h cells slots) (kf : ¬ x = 0 → xT G R A Z K M pc' L S h cells slots) : xT G R A Z K M pc L (zi x :: S) h cells slots := by
  obtain ⟨hd, rfl, ht⟩ := hd
  intro p e s m args below meth c H locs ls hX hA hS hW hL
  obtain ⟨hx, hb, hml, hr, hts, hown, hlk, hK, hSt⟩ := id hX.1
  exact lv_if_eq hx hb hd ht (fun q => kt q p e s m args below meth c H locs ls hX hA hS hW hL) (fun q => kf q p e s m args below meth c H locs ls hX hA hS hW hL)
theorem xt_if_ne {G : ZG} {R : Room} {A : State → Nat → Prop} {Z : NZ} {K : XP} {cells slots : Nat} {M : ZM} {pc pc' tgt : Nat} {L S : List ZV} {h : ZH} {x : Int32} {off : Int} (hd : zB M.2.1 pc pc' tgt (.ifCond .ne off) off) (kt : ¬ x = 0 → xT G R A Z K M tgt L S h cells slots) (kf : x = 0 → xT G R A Z K M pc' L S h cells slots) : xT G R A Z K M pc L (zi x :: S) h cells slots := by
  obtain ⟨hd, rfl, ht⟩ := hd
  intro p e s m args below meth c H locs ls hX hA hS hW hL
  obtain ⟨hx, hb, hml, hr, hts, hown, hlk, hK, hSt⟩ := id hX.1
  exact lv_if_ne hx hb hd ht (fun q => kt q p e s m args below meth c H locs ls hX hA hS hW hL) (fun q => kf q p e s m args below meth c H locs ls hX hA hS hW hL)
theorem xt_if_ge {G : ZG} {R : Room} {A : State → Nat → Prop} {Z : NZ} {K : XP} {cells slots : Nat} {M : ZM} {pc pc' tgt : Nat} {L S : List ZV} {h : ZH} {x : Int32} {off : Int} (hd : zB M.2.1 pc pc' tgt (.ifCond .ge off) off) (kt : 0 ≤ x → xT G R A Z K M tgt L S h cells slots) (kf : ¬ 0 ≤ x → xT G R A Z K M pc' L S h cells slots) : xT G R A Z K M pc L (zi x :: S) h cells slots := by
  obtain ⟨hd, rfl, ht⟩ := hd
  intro p e s m args below meth c H locs ls hX hA hS hW hL
  obtain ⟨hx, hb, hml, hr, hts, hown, hlk, hK, hSt⟩ := id hX.1
  exact lv_if_ge hx hb hd ht (fun q => kt q p e s m args below meth c H locs ls hX hA hS hW hL) (fun q => kf q p e s m args below meth c H locs ls hX hA hS hW hL)
theorem xt_if_lt {G : ZG} {R : Room} {A : State → Nat → Prop} {Z : NZ} {K : XP} {cells slots : Nat} {M : ZM} {pc pc' tgt : Nat} {L S : List ZV} {h : ZH} {x : Int32} {off : Int} (hd : zB M.2.1 pc pc' tgt (.ifCond .lt off) off) (kt : x < 0 → xT G R A Z K M tgt L S h cells slots) (kf : ¬ x < 0 → xT G R A Z K M pc' L S h cells slots) : xT G R A Z K M pc L (zi x :: S) h cells slots := by
  obtain ⟨hd, rfl, ht⟩ := hd
  intro p e s m args below meth c H locs ls hX hA hS hW hL
  obtain ⟨hx, hb, hml, hr, hts, hown, hlk, hK, hSt⟩ := id hX.1
  exact lv_if_lt hx hb hd ht (fun q => kt q p e s m args below meth c H locs ls hX hA hS hW hL) (fun q => kf q p e s m args below meth c H locs ls hX hA hS hW hL)
theorem xt_goto {G : ZG} {R : Room} {A : State → Nat → Prop} {Z : NZ} {K : XP} {cells slots : Nat} {M : ZM} {pc pc' tgt : Nat} {L S : List ZV} {h : ZH} {off : Int} (hd : zB M.2.1 pc pc' tgt (.goto off) off) (k : xT G R A Z K M tgt L S h cells slots) : xT G R A Z K M pc L S h cells slots := by
  obtain ⟨hd, rfl, ht⟩ := hd
  intro p e s m args below meth c H locs ls hX hA hS hW hL
  obtain ⟨hx, hb, hml, hr, hts, hown, hlk, hK, hSt⟩ := id hX.1
  exact lv_goto hx hb hd ht (k p e s m args below meth c H locs ls hX hA hS hW hL)
theorem xt_lcmp {G : ZG} {R : Room} {A : State → Nat → Prop} {Z : NZ} {K : XP} {cells slots : Nat} {M : ZM} {pc pc' : Nat} {L S : List ZV} {h : ZH} {x y : Int64} (hd : zD M.2.1 pc pc' .lcmp 1) (k : xT G R A Z K M pc' L (zi (lg_cmp x y) :: S) h cells slots) : xT G R A Z K M pc L (zl y :: zl x :: S) h cells slots := by
  obtain ⟨hd, rfl⟩ := hd
  intro p e s m args below meth c H locs ls hX hA hS hW hL
  obtain ⟨hx, hb, hml, hr, hts, hown, hlk, hK, hSt⟩ := id hX.1
  exact W.lcmp hx hb hd (k p e s m args below meth c H locs ls hX hA hS hW hL)
theorem xt_i2l {G : ZG} {R : Room} {A : State → Nat → Prop} {Z : NZ} {K : XP} {cells slots : Nat} {M : ZM} {pc pc' : Nat} {L S : List ZV} {h : ZH} {x : Int32} (hd : zD M.2.1 pc pc' .i2l 1) (k : xT G R A Z K M pc' L (zl x.toInt64 :: S) h cells slots) : xT G R A Z K M pc L (zi x :: S) h cells slots := by
  obtain ⟨hd, rfl⟩ := hd
  intro p e s m args below meth c H locs ls hX hA hS hW hL
  obtain ⟨hx, hb, hml, hr, hts, hown, hlk, hK, hSt⟩ := id hX.1
  exact lv_i2l hx hb hd rfl (k p e s m args below meth c H locs ls hX hA hS hW hL)
theorem xt_get {G : ZG} {R : Room} {A : State → Nat → Prop} {Z : NZ} {K : XP} {cells slots : Nat} {M : ZM} {pc pc' : Nat} {L S : List ZV} {h : ZH} {k i ci N j index : Nat} {v : ZV} (hd : zD M.2.1 pc pc' (.getfield index) 3) (hf : zFS M.1.cls index ci N j) (hk : zkd k i = .inl (ci, N)) (hi : i < zcnt k) (hv : zf h k i j = v) (kk : xT G R A Z K M pc' L (v :: S) h cells slots) : xT G R A Z K M pc L (zr k i :: S) h cells slots := by
  obtain ⟨hd, rfl⟩ := hd
  intro p e s m args below meth c H locs ls hX hA hS hW hL
  obtain ⟨hx, hb, hml, hr, hts, hown, hlk, hK, hSt⟩ := id hX.1
  obtain ⟨C, T, hc, hjN, hin, hlink⟩ := hf
  obtain ⟨q, -, hq⟩ := zL_at G h hi
  rw [zE_obj G h hk] at hq
  have hfs := zmap_get G h (k := k) (i := i) hjN
  rw [hv] at hfs
  have k2 := kk p e s m args below meth c H locs ls hX hA hS hW hL
  rcases hlink with hl | ⟨host, hl⟩
  · exact va_get hx hb hts hin hown hK.1 hW q hq hc j hjN (hts _ hl) (fun _ z => z) hfs hd k2
  · exact va_getN hx hb hts hin hown hK.1 hW q hq hc j hjN (va_Nw.use (znw_on hl) (hK.2.1 _ hl)) (fun _ z => z) hfs hd k2
theorem xt_aaldS {G : ZG} {R : Room} {A : State → Nat → Prop} {Z : NZ} {K : XP} {cells slots : Nat} {M : ZM} {pc pc' : Nat} {L S : List ZV} {h : ZH} {j : Int32} (hd : zD M.2.1 pc pc' .aaload 1) (hj : vp_in j 8) (kk : xT G R A Z K M pc' L (zr 4 j.toNatClampNeg :: S) h cells slots) : xT G R A Z K M pc L (zi j :: zr 21 0 :: S) h cells slots := by
  obtain ⟨hd, rfl⟩ := hd
  intro p e s m args below meth c H locs ls hX hA hS hW hL
  obtain ⟨hx, hb, hml, hr, hts, hown, hlk, hK, hSt⟩ := id hX.1
  obtain ⟨q, -, hq⟩ := zL_at G h (k := 21) (i := 0) (by decide)
  rw [zE_ref G h (t := 0) (n := 8) rfl] at hq
  exact va_aldq hx hb hK.1 hW q 3 hq rfl hj hd (kk p e s m args below meth c H locs ls hX hA hS hW hL)
theorem xt_aaldH {G : ZG} {R : Room} {A : State → Nat → Prop} {Z : NZ} {K : XP} {cells slots : Nat} {M : ZM} {pc pc' : Nat} {L S : List ZV} {h : ZH} {j : Int32} (hd : zD M.2.1 pc pc' .aaload 1) (hj : vp_in j 8) (kk : xT G R A Z K M pc' L (zr 3 j.toNatClampNeg :: S) h cells slots) : xT G R A Z K M pc L (zi j :: zr 22 0 :: S) h cells slots := by
  obtain ⟨hd, rfl⟩ := hd
  intro p e s m args below meth c H locs ls hX hA hS hW hL
  obtain ⟨hx, hb, hml, hr, hts, hown, hlk, hK, hSt⟩ := id hX.1
  obtain ⟨q, -, hq⟩ := zL_at G h (k := 22) (i := 0) (by decide)
  rw [zE_ref G h (t := 1) (n := 8) rfl] at hq
  exact va_aldq hx hb hK.1 hW q 4 hq rfl hj hd (kk p e s m args below meth c H locs ls hX hA hS hW hL)
theorem xt_iald {G : ZG} {R : Room} {A : State → Nat → Prop} {Z : NZ} {K : XP} {cells slots : Nat} {M : ZM} {pc pc' : Nat} {L S : List ZV} {h : ZH} {k i n : Nat} {j : Int32} (hd : zD M.2.1 pc pc' .iaload 1) (hk : zkd k i = .inr (0, n)) (hi : i < zcnt k) (hj : vp_in j n) (kk : xT G R A Z K M pc' L (zi (h.1 k i j.toNatClampNeg) :: S) h cells slots) : xT G R A Z K M pc L (zi j :: zr k i :: S) h cells slots := by
  obtain ⟨hd, rfl⟩ := hd
  intro p e s m args below meth c H locs ls hX hA hS hW hL
  obtain ⟨hx, hb, hml, hr, hts, hown, hlk, hK, hSt⟩ := id hX.1
  obtain ⟨q, -, hq⟩ := zL_at G h hi
  rw [zE_int G h hk] at hq
  exact va_iald hx hb hK.1 hW q 0 hq rfl hj hd (kk p e s m args below meth c H locs ls hX hA hS hW hL)
theorem xt_lald {G : ZG} {R : Room} {A : State → Nat → Prop} {Z : NZ} {K : XP} {cells slots : Nat} {M : ZM} {pc pc' : Nat} {L S : List ZV} {h : ZH} {k i n : Nat} {j : Int32} (hd : zD M.2.1 pc pc' .laload 1) (hk : zkd k i = .inr (1, n)) (hi : i < zcnt k) (hj : vp_in j n) (kk : xT G R A Z K M pc' L (zl (h.2 k i j.toNatClampNeg) :: S) h cells slots) : xT G R A Z K M pc L (zi j :: zr k i :: S) h cells slots := by
  obtain ⟨hd, rfl⟩ := hd
  intro p e s m args below meth c H locs ls hX hA hS hW hL
  obtain ⟨hx, hb, hml, hr, hts, hown, hlk, hK, hSt⟩ := id hX.1
  obtain ⟨q, -, hq⟩ := zL_at G h hi
  rw [zE_long G h hk] at hq
  exact va_lald hx hb hK.1 hW q 1 hq rfl hj hd (kk p e s m args below meth c H locs ls hX hA hS hW hL)
theorem xt_tabIn {G : ZG} {R : Room} {A : State → Nat → Prop} {Z : NZ} {K : XP} {cells slots : Nat} {M : ZM} {pc tgt len : Nat} {L S : List ZV} {h : ZH} {dflt lo hi off : Int} {offs : Array Int} {x : Int32} (hd : decode M.2.1 pc = .ok (.tableswitch dflt lo hi offs, len)) (h1 : ¬ x.toInt < lo) (h2 : ¬ hi < x.toInt) (ho : offs[(x.toInt - lo).toNat]? = some off) (ht : (pc : Int) + off = (tgt : Int))
    (kk : xT G R A Z K M tgt L S h cells slots) : xT G R A Z K M pc L (zi x :: S) h cells slots := by
  intro p e s m args below meth c H locs ls hX hA hS hW hL
  obtain ⟨hx, hb, hml, hr, hts, hown, hlk, hK, hSt⟩ := id hX.1
  exact lv_tableIn hx hb hd h1 h2 ho ht (kk p e s m args below meth c H locs ls hX hA hS hW hL)
theorem xt_tabOut {G : ZG} {R : Room} {A : State → Nat → Prop} {Z : NZ} {K : XP} {cells slots : Nat} {M : ZM} {pc tgt len : Nat} {L S : List ZV} {h : ZH} {dflt lo hi : Int} {offs : Array Int} {x : Int32} (hd : decode M.2.1 pc = .ok (.tableswitch dflt lo hi offs, len)) (hh : x.toInt < lo ∨ hi < x.toInt) (ht : (pc : Int) + dflt = (tgt : Int))
    (kk : xT G R A Z K M tgt L S h cells slots) : xT G R A Z K M pc L (zi x :: S) h cells slots := by
  intro p e s m args below meth c H locs ls hX hA hS hW hL
  obtain ⟨hx, hb, hml, hr, hts, hown, hlk, hK, hSt⟩ := id hX.1
  exact lv_tableOut hx hb hd hh ht (kk p e s m args below meth c H locs ls hX hA hS hW hL)
/-! ===== its calls ===== -/
theorem x_join {G : ZG} {A : Nat → Prop} {s : State} {H H1 : Heap} {locs L : List Loc} (hA : xAA G A s) (hS : va_S A s.heap H locs) (hz : H.size ≤ H1.size) (hk : ∀ q : Nat, q < H.size → ¬ zA G q → H1[q]? = H[q]?) (hL : ∀ q ∈ L, zA G q.base) : va_S A s.heap H1 (locs ++ L) :=
  ⟨Nat.le_trans hS.1 hz, fun q h1 h2 => by rw [hk q (Nat.lt_of_lt_of_le h1 hS.1) (fun z => h2 (hA.1 q z))]; exact hS.2.1 q h1 h2, fun q hq => by
      rcases List.mem_append.mp hq with h | h
      · exact hS.2.2 q h
      · exact hA.1 _ (hL q h)⟩
theorem x_call {G : ZG} {R : Room} {mc ms : Nat} {A : Nat → Prop} {p : Program} {e : Env} {s : State} {m : MethodId} {args : Array Value} {below : List Frame} {meth : Method} {c : Code} {H : Heap} {locs : List Loc} {cells slots : Nat} {Z : State → Prop} {pc : Nat} {ls : Array Slot} {rest st0 : List Value} {a : Array Value} {Q1 : Option ZV → ZH → Prop}
    (hr : va_Run p G.1 e R s m args below meth c H locs cells slots mc ms (F0 m pc ls st0) rest (zQ G Q1 a) (zA G)) (hA : xAA G A s) (hS : va_S A s.heap H locs)
    (kk : ∀ (r : Option ZV) (h' : ZH) (H1 : Heap) (locs1 : List Loc), Q1 r h' → zW G h' H1 → va_S A s.heap H1 locs1 → W p G.1 e R s m args below meth c H1 locs1 (cells + mc) (slots + ms) Z (F0 m (pc + 3) ls ((r.map (zc G)).toList ++ rest))) : W p G.1 e R s m args below meth c H locs cells slots Z (F0 m pc ls st0) := by
  intro T hT X
  obtain ⟨v, st₀, t, T', L, h0, X', hL, e1, e2, ⟨⟨r, h', hv, hp, hb⟩, hz, hk⟩, st⟩ := hr T hT X
  cases hv
  rw [h0] at hz hk
  obtain ⟨t2, a1, b1⟩ := kk r h' T'.heap (locs ++ L) hp (by rw [e1]; exact hb) (by rw [e1]; exact x_join hA hS hz hk hL) T' rfl X'
  exact ⟨t2, st t2 a1, b1⟩
/-- what holds where a callee has thrown: the picture is what it was -/
def xXC (G : ZG) (h : ZH) (Px : String → Prop) : String → State → State → Prop := fun E st t => Px E ∧ zW G h t.heap ∧ va_F (zA G) st t
theorem x_callX {G : ZG} {R : Room} {mc ms : Nat} {A : Nat → Prop} {p : Program} {e : Env} {s : State} {m : MethodId} {args : Array Value} {below : List Frame} {meth : Method} {c : Code} {H : Heap} {locs : List Loc} {cells slots : Nat} {Z : State → Prop} {pc : Nat} {ls : Array Slot} {rest st0 : List Value} {a : Array Value} {Q1 : Option ZV → ZH → Prop} {h : ZH} {Px : String → Prop}
    (hr : vx_Run p G.1 e R s m args below meth c H locs cells slots mc ms (F0 m pc ls st0) rest (zQ G Q1 a) (xXC G h Px) (zA G)) (hA : xAA G A s) (hS : va_S A s.heap H locs)
    (kx : ∀ (E : String) (ce : Cell) (q9 : Addr) (H1 : Heap) (locs1 : List Loc), Px E → zW G h H1 → va_S A s.heap H1 locs1 → H1[q9]? = some ce → ce.vm = .none → s.vm.findClass E = some ce.cls → vx_W p G.1 e R s m args below meth c H1 locs1 (cells + mc) (slots + ms) Z (F0 m pc ls rest) q9)
    (kk : ∀ (r : Option ZV) (h' : ZH) (H1 : Heap) (locs1 : List Loc), Q1 r h' → zW G h' H1 → va_S A s.heap H1 locs1 → W p G.1 e R s m args below meth c H1 locs1 (cells + mc) (slots + ms) Z (F0 m (pc + 3) ls ((r.map (zc G)).toList ++ rest))) : W p G.1 e R s m args below meth c H locs cells slots Z (F0 m pc ls st0) := by
  intro T hT X
  rcases hr T hT X with ⟨v, st₀, t, T', L, h0, X', hL, e1, e2, ⟨⟨r, h', hv, hp, hb⟩, hz, hk⟩, st⟩ | ⟨q, st₀, t, T', L, E, ce, h0, X', hL, e1, e2, ⟨hp, hb, hz, hk⟩, hce, hcv, hcl, st⟩
  · cases hv
    rw [h0] at hz hk
    obtain ⟨t2, a1, b1⟩ := kk r h' T'.heap (locs ++ L) hp (by rw [e1]; exact hb) (by rw [e1]; exact x_join hA hS hz hk hL) T' rfl X'
    exact ⟨t2, st t2 a1, b1⟩
  · rw [h0] at hz hk
    obtain ⟨t2, a1, b1⟩ := kx E ce q T'.heap (locs ++ L) hp (by rw [e1]; exact hb) (by rw [e1]; exact x_join hA hS hz hk hL) (by rw [e1]; exact hce) hcv hcl T' rfl X'
    exact ⟨t2, st.trans a1, b1⟩
theorem x_pre {G : ZG} {A : Nat → Prop} {as : List ZV} {h : ZH} {s : State} {H : Heap} {locs : List Loc} (hK : zK G s) (hSt : zSt G s s.heap) (hA : xAA G A s) (hS : va_S A s.heap H locs) (hW : zW G h H) : ∀ U : State, U.heap = H → s.WarmedH U.vm → zPc G as h (as.map (zc G)).toArray U := by
  intro U hU hw
  refine ⟨rfl, by rw [hU]; exact hW, zK.warm hw hK, zSt.moved hw.alike ?_⟩
  rw [hU]
  exact hSt.kept (xS hA hS)
/-- the premise of a method that may make an exception -/
def xPc (G : ZG) (as : List ZV) (h : ZH) : Array Value → State → Prop := va_Pc (as.map (zc G)) (fun U => zW G h U.heap ∧ zK G U ∧ zSt G U U.heap ∧ xcK G U ∧ xcH G U U.heap)
theorem xPc_blind (G : ZG) (as : List ZV) (h : ZH) : FrameBlind (xPc G as h) := by
  intro a U g mk hp
  obtain ⟨h1, h2, h3, h4, h5, h6⟩ := hp
  exact ⟨h1, h2, zK.same (s := U) (U := U.calling g mk a) rfl h3, zSt.moved (u := U) (U := U.calling g mk a) (Vm.Alike.refl U.vm) h4, xcK.same (s := U) (U := U.calling g mk a) rfl h5, xcH.moved (u := U) (U := U.calling g mk a) (Vm.Alike.refl U.vm) h6⟩
theorem x_preX {G : ZG} {A : Nat → Prop} {as : List ZV} {h : ZH} {s : State} {H : Heap} {locs : List Loc} (hK : zK G s) (hSt : zSt G s s.heap) (hc : xcK G s) (hcH : xcH G s s.heap) (hA : xAA G A s) (hS : va_S A s.heap H locs) (hW : zW G h H) : ∀ U : State, U.heap = H → s.WarmedH U.vm → xPc G as h (as.map (zc G)).toArray U := by
  intro U hU hw
  refine ⟨rfl, by rw [hU]; exact hW, zK.warm hw hK, zSt.moved hw.alike ?_, xcK.warm hw hc, xcH.moved hw.alike ?_⟩
  · rw [hU]; exact hSt.kept (xS hA hS)
  · rw [hU]; exact hcH.kept (xS hA hS)
/-- contracts: one that may throw; one that makes cells and returns -/
def xCX (G : ZG) (d : Nat) (M : ZM) (as : List ZV) (h : ZH) (Q : Option ZV → ZH → Prop) (Px : String → Prop) : Prop := vx_Met G.1 M.1 (zws M) (nRm d 1 6) (xPc G as h) (zQ G Q) (xXC G h Px) 1 6 (zA G)
def xws (M : ZM) (hh : List (Nat × Nat × Nat × Nat)) : List Cond := .codeWith M.1 M.2.1 M.2.2.1 M.2.2.2 hh :: zall
def xCW (G : ZG) (d : Nat) (M : ZM) (hh : List (Nat × Nat × Nat × Nat)) (as : List ZV) (h : ZH) (Q : Option ZV → ZH → Prop) : Prop := Met G.1 M.1 (xws M hh) (nRm d 1 6) (xPc G as h) (zQ G Q) 1 6 (zA G)
def xC (G : ZG) (d : Nat) (M : ZM) (as : List ZV) (h : ZH) (Q : Option ZV → ZH → Prop) : Prop := Met G.1 M.1 (zws M) (nRm d 1 6) (xPc G as h) (zQ G Q) 1 6 (zA G)
section XR
variable {G : ZG} {R : Room} {A : State → Nat → Prop} {Z : NZ} {K : XP} {M N : ZM} {pc pc' : Nat} {L S : List ZV} {h : ZH} {cells slots : Nat}
theorem x_toList (G : ZG) (r : Option ZV) (S : List ZV) : (r.toList ++ S).map (zc G) = (r.map (zc G)).toList ++ S.map (zc G) := by
  rw [List.map_append]
  cases r <;> rfl
theorem xt_cV {d : Nat} {Q1 : Option ZV → ZH → Prop} {as : List ZV} {k i ci Nf index n : Nat} {S0 : List ZV} (hd : zD M.2.1 pc pc' (.invokevirtual index) 3) (hs : zVS M.1.cls index ci N n) (hk : zkd k i = .inl (ci, Nf)) (hi : i < zcnt k) (hn : as.length = n) (hS4 : S.length ≤ 4) (hS0 : S0 = as.reverse ++ (zr k i :: S)) (hRf : d + 1 ≤ R.frames) (hRl : 48 * d + 48 ≤ R.locals) (hRc : cells ≤ R.cells) (hRs : slots ≤ R.slots) (hC : zC G d N (zr k i :: as) h Q1) (kk : ∀ r h', Q1 r h' → xT G R A Z K M pc' L (r.toList ++ S) h' cells slots) : xT G R A Z K M pc L S0 h cells slots := by
  obtain ⟨hd, rfl⟩ := hd
  intro p e s m args below meth c H locs ls hX hA hS hW hL
  obtain ⟨hx, hb, hml, hr, hts, hown, hlk, hK, hSt⟩ := id hX.1
  subst hS0
  obtain ⟨⟨w1, w2, w3, w4, w5⟩, hdsc, hmax, T, Nf', hc⟩ := hs
  have cw := cwV (R := R) (s := s) (args := args) (own := M.1.cls) (C := N.1.cls) (index := index) (y := N.1) (bytes := N.2.1) (maxL := N.2.2.1) (mc := 0) (ms := 0) (ret := N.2.2.2) (Ts := zall) (ws := zws N) (rm := zrm d) n hts (zin_of w1 (zin_of w2 (zin_of w3 (zin_of w4 (z_ws N w5))))) rfl rfl rfl ⟨rfl, hdsc⟩ ⟨hRf, by show 8 + (N.2.2.1 + 11) + 48 * d ≤ R.locals; omega⟩
  obtain ⟨q0, -, hq0⟩ := zL_at G h hi
  rw [zE_obj G h hk] at hq0
  have hrv := va_recv hK.1 hW hc hq0
  have hstk : ((as.reverse ++ (zr k i :: S)).map (zc G)) = (as.map (zc G)).reverse ++ Value.ref (G.2.2.2 k i) :: S.map (zc G) := by
    rw [List.map_append, List.map_reverse]; rfl
  refine x_call (mc := 0) (ms := 0) (rest := S.map (zc G)) (va_runV (As := as.map (zc G)) ⟨hx, hb, hml, hown, hts⟩ hC cw ⟨zPc_blind G _ h, hrv, x_pre (as := zr k i :: as) hK hSt hA hS hW⟩ rfl (by rw [List.length_map]; exact hn) hL.1 hstk (lv_room (zc_sum G S hS4)) hd ⟨hRc, hRs⟩) hA hS ?_
  intro r h' H1 locs1 hq hW1 hS1
  have k2 := kk r h' hq p e s m args below meth c H1 locs1 ls hX hA hS1 hW1 hL
  rw [x_toList] at k2
  exact k2
/-- the same of a method that makes an exception and catches it -/
theorem xt_cVx {d : Nat} {Q1 : Option ZV → ZH → Prop} {as : List ZV} {k i ci Nf index n : Nat} {S0 : List ZV} (hd : zD M.2.1 pc pc' (.invokevirtual index) 3) (hs : zVS M.1.cls index ci N n) (hk : zkd k i = .inl (ci, Nf)) (hi : i < zcnt k) (hn : as.length = n) (hS4 : S.length ≤ 4) (hS0 : S0 = as.reverse ++ (zr k i :: S)) (hRf : d + 1 ≤ R.frames) (hRl : 48 * d + 48 ≤ R.locals) (hRc : cells + 1 ≤ R.cells) (hRs : slots + 6 ≤ R.slots) (hC : xC G d N (zr k i :: as) h Q1) (kk : ∀ r h', Q1 r h' → xT G R A Z K M pc' L (r.toList ++ S) h' (cells + 1) (slots + 6)) : xT G R A Z K M pc L S0 h cells slots := by
  obtain ⟨hd, rfl⟩ := hd
  intro p e s m args below meth c H locs ls hX hA hS hW hL
  obtain ⟨hx, hb, hml, hr, hts, hown, hlk, hK, hSt⟩ := id hX.1
  subst hS0
  obtain ⟨⟨w1, w2, w3, w4, w5⟩, hdsc, hmax, T, Nf', hc⟩ := hs
  have cw := cwV (R := R) (s := s) (args := args) (own := M.1.cls) (C := N.1.cls) (index := index) (y := N.1) (bytes := N.2.1) (maxL := N.2.2.1) (mc := 1) (ms := 6) (ret := N.2.2.2) (Ts := zall) (ws := zws N) (rm := nRm d 1 6) n hts (zin_of w1 (zin_of w2 (zin_of w3 (zin_of w4 (z_ws N w5))))) rfl rfl rfl ⟨rfl, hdsc⟩ ⟨hRf, by show 8 + (N.2.2.1 + 11) + 48 * d ≤ R.locals; omega⟩
  obtain ⟨q0, -, hq0⟩ := zL_at G h hi
  rw [zE_obj G h hk] at hq0
  have hrv := va_recv hK.1 hW hc hq0
  have hstk : ((as.reverse ++ (zr k i :: S)).map (zc G)) = (as.map (zc G)).reverse ++ Value.ref (G.2.2.2 k i) :: S.map (zc G) := by
    rw [List.map_append, List.map_reverse]; rfl
  refine x_call (mc := 1) (ms := 6) (rest := S.map (zc G)) (va_runV (As := as.map (zc G)) ⟨hx, hb, hml, hown, hts⟩ hC cw ⟨xPc_blind G _ h, hrv, x_preX (as := zr k i :: as) hK hSt hX.2.1 hX.2.2.1 hA hS hW⟩ rfl (by rw [List.length_map]; exact hn) hL.1 hstk (lv_room (zc_sum G S hS4)) hd ⟨hRc, hRs⟩) hA hS ?_
  intro r h' H1 locs1 hq hW1 hS1
  have k2 := kk r h' hq p e s m args below meth c H1 locs1 ls hX hA hS1 hW1 hL
  rw [x_toList] at k2
  exact k2
end XR
