/-! ===== making: the judgement of a frame that makes cells ===== -/
def zsub : List String := [RX2, RX0, RX7, RX5, RX9, RX1, RX6]
def nK (G : ZG) (U : State) : Prop := zK G U ∧ va_AO RX10 U ∧ va_AO RX8 U ∧ ∀ C ∈ zsub, va_Nw (.castable C RX10) U
theorem nK.warm {G : ZG} {s U : State} (hW : s.WarmedH U.vm) (h : nK G s) : nK G U := ⟨zK.warm hW h.1, va_AO.moved hW.alike h.2.1, va_AO.moved hW.alike h.2.2.1, fun C hC => va_Nw.warmC hW (h.2.2.2 C hC)⟩
theorem nK.same {G : ZG} {s U : State} (hv : s.vm = U.vm) (h : nK G s) : nK G U := ⟨zK.same hv h.1, va_AO.moved (by rw [hv]; exact Vm.Alike.refl _) h.2.1, va_AO.moved (by rw [hv]; exact Vm.Alike.refl _) h.2.2.1, fun C hC => va_Nw.same rfl hv (h.2.2.2 C hC)⟩
def nX (G : ZG) (M : ZM) (p : Program) (s : State) (m : MethodId) (args : Array Value) (meth : Method) (c : Code) : Prop :=
  p.tables.exec = Jvm.exec ∧ c.code = M.2.1 ∧ c.maxLocals = M.2.2.1 ∧ meth.sig.returnType = M.2.2.2 ∧ (∀ w ∈ zall, w.before args s = true) ∧ s.vm.findClass M.1.cls = some m.cls ∧ meth.locks = false ∧ (M.1.name = "<init>" → meth.name = "<init>") ∧ nK G s
abbrev NZ : Type := List Frame → Array Value → State → State → Prop
abbrev NP : Type := State → Array Value → Prop
def nT (G : ZG) (R : Room) (A : Nat → Prop) (Z : NZ) (K : NP) (M : ZM) (pc : Nat) (L : List (Nat × Value)) (S : List Value) (w : va_W) (cells slots : Nat) : Prop :=
  ∀ (p : Program) (e : Env) (s : State) (m : MethodId) (args : Array Value) (below : List Frame) (meth : Method) (c : Code) (H : Heap) (locs : List Loc) (ls : Array Slot),
    nX G M p s m args meth c → K s args → (∀ q : Nat, s.heap.size ≤ q → A q) → va_S A s.heap H locs → va_P G.2.1 vwCl w H → va_D A w → lv_has ls M.2.2.1 L →
    W p G.1 e R s m args below meth c H locs cells slots (Z below args s) (F0 m pc ls S)
section NR
variable {G : ZG} {R : Room} {A : Nat → Prop} {Z : NZ} {K : NP} {M : ZM} {pc pc' : Nat} {L : List (Nat × Value)} {S : List Value} {w : va_W} {cells slots : Nat}
theorem nt_al {n : Fin 4} {a : Nat} (i : Nat) (hd : zD M.2.1 pc pc' (.aload_n n) 1) (hl : L[i]? = some ((n : Nat), .ref a)) (k : nT G R A Z K M pc' L (.ref a :: S) w cells slots) : nT G R A Z K M pc L S w cells slots := by
  obtain ⟨hd, rfl⟩ := hd
  intro p e s m args below meth c H locs ls hX hK hA hS hP hD hL
  obtain ⟨hx, hb, hml, hr, hts, hown, hlk, hin, hk⟩ := id hX
  exact lv_aload_n hx hb hd rfl (lv_at hL i hl) (k p e s m args below meth c H locs ls hX hK hA hS hP hD hL)
theorem nt_il {n : Fin 4} {a : Int32} (i : Nat) (hd : zD M.2.1 pc pc' (.iload_n n) 1) (hl : L[i]? = some ((n : Nat), .int a)) (k : nT G R A Z K M pc' L (.int a :: S) w cells slots) : nT G R A Z K M pc L S w cells slots := by
  obtain ⟨hd, rfl⟩ := hd
  intro p e s m args below meth c H locs ls hX hK hA hS hP hD hL
  obtain ⟨hx, hb, hml, hr, hts, hown, hlk, hin, hk⟩ := id hX
  exact lv_iload_n hx hb hd rfl (lv_at hL i hl) (k p e s m args below meth c H locs ls hX hK hA hS hP hD hL)
theorem nt_dup {v : Value} (hd : zD M.2.1 pc pc' .dup 1) (hv : v.category = 1) (k : nT G R A Z K M pc' L (v :: v :: S) w cells slots) : nT G R A Z K M pc L (v :: S) w cells slots := by
  obtain ⟨hd, rfl⟩ := hd
  intro p e s m args below meth c H locs ls hX hK hA hS hP hD hL
  obtain ⟨hx, hb, hml, hr, hts, hown, hlk, hin, hk⟩ := id hX
  exact lv_dup hx hb hd hv (k p e s m args below meth c H locs ls hX hK hA hS hP hD hL)
theorem nt_iconst {n : Int} {v : Int32} (hd : zD M.2.1 pc pc' (.iconst n) 1) (hv : Int32.ofInt n = v) (k : nT G R A Z K M pc' L (.int v :: S) w cells slots) : nT G R A Z K M pc L S w cells slots := by
  obtain ⟨hd, rfl⟩ := hd
  intro p e s m args below meth c H locs ls hX hK hA hS hP hD hL
  obtain ⟨hx, hb, hml, hr, hts, hown, hlk, hin, hk⟩ := id hX
  exact lv_iconst hx hb hd hv (k p e s m args below meth c H locs ls hX hK hA hS hP hD hL)
theorem nt_bipush {n : Int} {v : Int32} (hd : zD M.2.1 pc pc' (.bipush n) 2) (hv : (Int8.ofInt n).toInt32 = v) (k : nT G R A Z K M pc' L (.int v :: S) w cells slots) : nT G R A Z K M pc L S w cells slots := by
  obtain ⟨hd, rfl⟩ := hd
  intro p e s m args below meth c H locs ls hX hK hA hS hP hD hL
  obtain ⟨hx, hb, hml, hr, hts, hown, hlk, hin, hk⟩ := id hX
  exact lv_bipush hx hb hd hv (k p e s m args below meth c H locs ls hX hK hA hS hP hD hL)
theorem nt_sipush {n : Int} {v : Int32} (hd : zD M.2.1 pc pc' (.sipush n) 3) (hv : (Int16.ofInt n).toInt32 = v) (k : nT G R A Z K M pc' L (.int v :: S) w cells slots) : nT G R A Z K M pc L S w cells slots := by
  obtain ⟨hd, rfl⟩ := hd
  intro p e s m args below meth c H locs ls hX hK hA hS hP hD hL
  obtain ⟨hx, hb, hml, hr, hts, hown, hlk, hin, hk⟩ := id hX
  exact lv_sipush hx hb hd hv (k p e s m args below meth c H locs ls hX hK hA hS hP hD hL)
theorem nt_ge {tgt : Nat} {x y : Int32} {off : Int} (hd : zB M.2.1 pc pc' tgt (.if_icmp .ge off) off) (kt : y ≤ x → nT G R A Z K M tgt L S w cells slots) (kf : ¬ y ≤ x → nT G R A Z K M pc' L S w cells slots) : nT G R A Z K M pc L (.int y :: .int x :: S) w cells slots := by
  obtain ⟨hd, rfl, ht⟩ := hd
  intro p e s m args below meth c H locs ls hX hK hA hS hP hD hL
  obtain ⟨hx, hb, hml, hr, hts, hown, hlk, hin, hk⟩ := id hX
  exact lv_icmp_ge hx hb hd ht (fun q => kt q p e s m args below meth c H locs ls hX hK hA hS hP hD hL) (fun q => kf q p e s m args below meth c H locs ls hX hK hA hS hP hD hL)
theorem nt_goto {tgt : Nat} {off : Int} (hd : zB M.2.1 pc pc' tgt (.goto off) off) (k : nT G R A Z K M tgt L S w cells slots) : nT G R A Z K M pc L S w cells slots := by
  obtain ⟨hd, rfl, ht⟩ := hd
  intro p e s m args below meth c H locs ls hX hK hA hS hP hD hL
  obtain ⟨hx, hb, hml, hr, hts, hown, hlk, hin, hk⟩ := id hX
  exact lv_goto hx hb hd ht (k p e s m args below meth c H locs ls hX hK hA hS hP hD hL)
/-- one local stored, told ones before it kept -/
theorem nt_ist {n : Fin 4} {x : Int32} {L' : List (Nat × Value)} (hd : zD M.2.1 pc pc' (.istore_n n) 1) (hn : (n : Nat) < M.2.2.1) (hl : ((n : Nat), Value.int x) :: L.filter (fun q => !(q.1 == (n : Nat)) && !(q.1 + 1 == (n : Nat) && q.2.category == 2)) = L') (k : nT G R A Z K M pc' L' S w cells slots) : nT G R A Z K M pc L (.int x :: S) w cells slots := by
  obtain ⟨hd, rfl⟩ := hd
  intro p e s m args below meth c H locs ls hX hK hA hS hP hD hL
  obtain ⟨hx, hb, hml, hr, hts, hown, hlk, hin, hk⟩ := id hX
  exact lv_istore_n hx hb hd rfl hL hn rfl (fun ls h1 => k p e s m args below meth c H locs ls hX hK hA hS hP hD (by rw [← hl]; exact h1))
theorem nt_iinc {i : Nat} {n : Int} {x v : Int32} {L' : List (Nat × Value)} (j : Nat) (hd : zD M.2.1 pc pc' (.iinc i n) 3) (hi : L[j]? = some (i, .int x)) (hv : x + Int32.ofInt n = v) (hn : i < M.2.2.1) (hl : (i, Value.int v) :: L.filter (fun q => !(q.1 == i) && !(q.1 + 1 == i && q.2.category == 2)) = L') (k : nT G R A Z K M pc' L' S w cells slots) : nT G R A Z K M pc L S w cells slots := by
  obtain ⟨hd, rfl⟩ := hd
  intro p e s m args below meth c H locs ls hX hK hA hS hP hD hL
  obtain ⟨hx, hb, hml, hr, hts, hown, hlk, hin, hk⟩ := id hX
  exact lv_iinc hx hb hd hL hi hv hn rfl (fun ls h1 => k p e s m args below meth c H locs ls hX hK hA hS hP hD (by rw [← hl]; exact h1))
/-- a field that is written by the class itself -/
def nPF (own : String) (index ci N k : Nat) (ty : FieldType) (fin : Bool) : Prop := ∃ (C : String) (T : u_T) (ty0 : Nat → FieldType), vwCl[ci]? = some (C, T, N) ∧ k < N ∧ (∀ w ∈ u_ws C T N, w ∈ zall) ∧ Cond.fieldLink own index (T k).1 (T k).2.1 (T k).2.2.1 ∈ zall ∧ (∀ k, k < N → parseFieldDescriptor (T k).2.2.1 = some (ty0 k)) ∧ (∀ a, a < N → ∀ b, b < N → a ≠ b → (T a).2.1 ≠ (T b).2.1) ∧ (T k).2.2.2 = fin ∧ parseFieldDescriptor (T k).2.2.1 = some ty ∧ (T k).1 = own
theorem nt_put {w' : va_W} (q0 : Nat) {a ci N k index : Nat} {fs : List Value} {v : Value} {ty : FieldType} {fin : Bool} (hd : zD M.2.1 pc pc' (.putfield index) 3) (hf : nPF M.1.cls index ci N k ty fin) (hw : w[q0]? = some (a, .inr (ci, fs))) (hl : k < fs.length) (hn : narrow ty v = v) (hfit : fits ty v = true) (hi : M.1.name = "<init>") (hw' : w.set q0 (a, .inr (ci, fs.set k v)) = w') (kk : nT G R A Z K M pc' L S w' cells slots) : nT G R A Z K M pc L (v :: .ref a :: S) w cells slots := by
  obtain ⟨hd, rfl⟩ := hd
  intro p e s m args below meth c H locs ls hX hK hA hS hP hD hL
  obtain ⟨hx, hb, hml, hr, hts, hown, hlk, hin, hk⟩ := id hX
  obtain ⟨C, T, ty0, f1, f2, f3, f4, f5, f6, f7, f8, f9⟩ := hf
  subst hw'
  cases fin with
  | true => exact va_putF hx hb hts f3 ty0 f5 f6 hown hk.1.1 hP hD hS q0 hw f1 k f2 (hts _ f4) (fun _ h => h) f7 (hin hi) f9 f8 hn hfit hl hd (fun H1 locs1 hP1 hD1 hS1 => kk p e s m args below meth c H1 locs1 ls hX hK hA hS1 hP1 hD1 hL)
  | false => exact va_put hx hb hts f3 ty0 f5 f6 hown hk.1.1 hP hD hS q0 hw f1 k f2 (hts _ f4) (fun _ h => h) f7 f8 hn hfit hl hd (fun H1 locs1 hP1 hD1 hS1 => kk p e s m args below meth c H1 locs1 ls hX hK hA hS1 hP1 hD1 hL)
theorem nt_get (q0 : Nat) {a ci N k index : Nat} {fs : List Value} {v : Value} (hd : zD M.2.1 pc pc' (.getfield index) 3) (hf : zFS M.1.cls index ci N k) (hw : w[q0]? = some (a, .inr (ci, fs))) (hv : fs[k]? = some v) (kk : nT G R A Z K M pc' L (v :: S) w cells slots) : nT G R A Z K M pc L (.ref a :: S) w cells slots := by
  obtain ⟨hd, rfl⟩ := hd
  intro p e s m args below meth c H locs ls hX hK hA hS hP hD hL
  obtain ⟨hx, hb, hml, hr, hts, hown, hlk, hin, hk⟩ := id hX
  obtain ⟨C, T, f1, f2, f3, f4⟩ := hf
  have k1 := kk p e s m args below meth c H locs ls hX hK hA hS hP hD hL
  rcases f4 with f4 | ⟨host, f4⟩
  · exact va_get hx hb hts f3 hown hk.1.1 hP q0 hw f1 k f2 (hts _ f4) (fun _ h => h) hv hd k1
  · exact va_getN hx hb hts f3 hown hk.1.1 hP q0 hw f1 k f2 (va_Nw.use rfl (hk.1.2.1 _ f4)) (fun _ h => h) hv hd k1
/-- the class of an array, by the tables -/
theorem na_same {G : ZG} {s : State} (hk : zK G s) {t : Nat} {ty : FieldType} (ht : (zty G)[t]? = some (G.2.2.1 t, ty)) {cA : ClassId} (hK1 : va_K G.2.1 vwCl (zty G ++ [(cA, ty)]) s) : cA = G.2.2.1 t := by
  have h1 := (hK1.2 (zty G).length (cA, ty) (by simp)).2
  have h2 := (hk.1.2 t _ ht).2
  unfold va_RA at h1 h2
  cases ty with
  | object C =>
    obtain ⟨_, _, _, _, _, h1⟩ := h1
    obtain ⟨_, _, _, _, _, h2⟩ := h2
    exact Option.some.inj (h1.symm.trans h2)
  | _ => exact Option.some.inj (h1.symm.trans h2)
theorem nt_newa (t : Nat) {atype : ArrayType} {ty : FieldType} {n : Int32} {N' : Nat} {a0 : vp_A} (hd : zD M.2.1 pc pc' (.newarray atype) 2) (hty : newarray.typeOf atype = ty) (harr : Cond.arrayClass (newarray.typeOf atype) ∈ zall) (ht : ∀ G : ZG, (zty G)[t]? = some (G.2.2.1 t, ty)) (ha : ∀ cA : ClassId, vp_cell cA a0 = arrV cA N' (fun _ => defaultValue ty)) (hn : ¬ n < 0) (hN : n.toNatClampNeg = N') (hbytes : N' * componentBytes ty ≤ 536870912) (hc : cells + 1 ≤ R.cells) (hs : slots + N' ≤ R.slots) (kk : ∀ q : Nat, nT G R A Z K M pc' L (.ref q :: S) (w ++ [(q, .inl (G.2.2.1 t, a0))]) (cells + 1) (slots + N')) : nT G R A Z K M pc L (.int n :: S) w cells slots := by
  obtain ⟨hd, rfl⟩ := hd
  intro p e s m args below meth c H locs ls hX hK hA hS hP hD hL
  obtain ⟨hx, hb, hml, hr, hts, hown, hlk, hin, hk⟩ := id hX
  refine va_newa hx hb (hts _ harr) hty hk.1.1 hP hD hS hA ha hn hN hbytes hc hs hd (fun q cA H1 hK1 hP1 hD1 hS1 => ?_)
  have := na_same hk.1 (ht G) hK1
  subst this
  exact kk q p e s m args below meth c H1 locs ls hX hK hA hS1 hP1 hD1 hL
theorem nt_newq (t : Nat) {C : String} {index : Nat} {n : Int32} {N' : Nat} (hd : zD M.2.1 pc pc' (.anewarray index) 3) (hcl : Cond.classLink M.1.cls index C ∈ zall) (hC : C = RX10 ∨ C = RX8) (ht : ∀ G : ZG, (zty G)[t]? = some (G.2.2.1 t, .object C)) (hn : ¬ n < 0) (hN : n.toNatClampNeg = N') (hbytes : N' * 4 ≤ 536870912) (hc : cells + 1 ≤ R.cells) (hs : slots + N' ≤ R.slots) (kk : ∀ q : Nat, nT G R A Z K M pc' L (.ref q :: S) (w ++ [(q, .inl (G.2.2.1 t, N', .inr (.inr (.inr (.inr (fun _ => none))))))]) (cells + 1) (slots + N')) : nT G R A Z K M pc L (.int n :: S) w cells slots := by
  obtain ⟨hd, rfl⟩ := hd
  intro p e s m args below meth c H locs ls hX hK hA hS hP hD hL
  obtain ⟨hx, hb, hml, hr, hts, hown, hlk, hin, hk⟩ := id hX
  have hover : va_AO C s := by
    rcases hC with rfl | rfl
    · exact hk.2.1
    · exact hk.2.2.1
  refine va_newq hx hb hown (hts _ hcl) hover hk.1.1 hP hD hS hA hn hN hbytes hc hs hd (fun q cA H1 hK1 hP1 hD1 hS1 => ?_)
  have := na_same hk.1 (ht G) hK1
  subst this
  exact kk q p e s m args below meth c H1 locs ls hX hK hA hS1 hP1 hD1 hL
theorem nt_new {C : String} {T : u_T} {N ci index : Nat} {ty : Nat → FieldType} (fs : List Value) (hd : zD M.2.1 pc pc' (.new index) 3) (hin : ∀ w ∈ u_ws C T N, w ∈ zall) (hty : ∀ k, k < N → parseFieldDescriptor (T k).2.2.1 = some (ty k)) (hw : Cond.classLink M.1.cls index C ∈ zall ∧ Cond.instantiable C N ∈ zall ∧ Cond.initialized C ∈ zall) (hc : vwCl[ci]? = some (C, T, N)) (hfs : ∀ j, j < N → defaultValue (ty j) = vp_V fs j) (hcc : cells + 1 ≤ R.cells) (hs : slots + N ≤ R.slots) (kk : ∀ q : Nat, nT G R A Z K M pc' L (.ref q :: S) (w ++ [(q, .inr (ci, fs))]) (cells + 1) (slots + N)) : nT G R A Z K M pc L S w cells slots := by
  obtain ⟨hd, rfl⟩ := hd
  intro p e s m args below meth c H locs ls hX hK hA hS hP hD hL
  obtain ⟨hx, hb, hml, hr, hts, hown, hlk, hin2, hk⟩ := id hX
  exact va_new hx hb hts hin ty hty hown (hts _ hw.1) (hts _ hw.2.1) (hts _ hw.2.2) hk.1.1 hP hD hS hA hc hfs hcc hs hd (fun q H1 hP1 hD1 hS1 => kk q p e s m args below meth c H1 locs ls hX hK hA hS1 hP1 hD1 hL)
theorem nt_obj {a index : Nat} (hd : zD M.2.1 pc pc' (.invokespecial index) 3) (hl : Cond.methodLink M.1.cls index objectInit ∈ zall) (hi : Cond.instanceMethod objectInit ∈ zall) (hco : Cond.code objectInit ⟨#[0xb1]⟩ 1 none ∈ zall) (hS0 : S = []) (hf : 1 ≤ R.frames) (hlo : 48 ≤ R.locals) (k : nT G R A Z K M pc' L S w cells slots) : nT G R A Z K M pc L (.ref a :: S) w cells slots := by
  obtain ⟨hd, rfl⟩ := hd
  intro p e s m args below meth c H locs ls hX hK hA hS hP hD hL
  obtain ⟨hx, hb, hml, hr, hts, hown, hlk, hin, hk⟩ := id hX
  subst hS0
  refine W.objInit hx hb hown (hts _ hl) (hts _ hi) (hts _ hco) rfl (by rw [hml]; exact hL.1) rfl hd hf (Nat.le_trans (Nat.le_of_ble_eq_true rfl) hlo) ?_
  exact k p e s m args below meth c H locs ls hX hK hA hS hP hD hL
theorem nt_ast (q0 qk t : Nat) {w' : va_W} {a v n : Nat} {ci : Nat} {r : vw_C} {vs : List Value} {f : Nat → Option Nat} {i : Int32} {E : String} (hd : zD M.2.1 pc pc' .aastore 1) (ht : ∀ G : ZG, (zty G)[t]? = some (G.2.2.1 t, .object E)) (ha : w[q0]? = some (a, .inl (G.2.2.1 t, n, .inr (.inr (.inr (.inr f)))))) (hv : w[qk]? = some (v, .inr (ci, vs))) (hc : vwCl[ci]? = some r) (hco : r.1 = E ∨ (E = RX10 ∧ r.1 ∈ zsub)) (hin : vp_in i n) (hw' : w.set q0 (a, .inl (G.2.2.1 t, n, .inr (.inr (.inr (.inr (va_up f i.toNatClampNeg (some v))))))) = w') (kk : nT G R A Z K M pc' L S w' cells slots) : nT G R A Z K M pc L (.ref v :: .int i :: .ref a :: S) w cells slots := by
  obtain ⟨hd, rfl⟩ := hd
  intro p e s m args below meth c H locs ls hX hK hA hS hP hD hL
  obtain ⟨hx, hb, hml, hr, hts, hown, hlk, hin2, hk⟩ := id hX
  subst hw'
  have hany : va_Any E s H v := va_rAny hk.1.1 hP hv hc (fun comp c0 h1 h2 => by
    rcases hco with q | ⟨q1, q2⟩
    · rw [q] at h2
      exact vb_asgS comp c0 h1 h2
    · rw [q1] at h1
      exact vb_asgC (hk.2.2.2 _ q2) comp c0 h1 h2)
  exact va_astqM hx hb hk.1.1 hP hD hS q0 t ha (ht G) hany hin hd (fun H1 locs1 hP1 hD1 hS1 => kk p e s m args below meth c H1 locs1 ls hX hK hA hS1 hP1 hD1 hL)
end NR
/-! ===== a constructor's contract ===== -/
def nRm (d mc ms : Nat) : Room := { frames := d, cells := mc, slots := ms, locals := 48 * d }
def nQ (G : ZG) (Qw : va_W → Prop) (A : Nat → Prop) : Array Value → State → Outcome → State → Prop := va_Qv (fun w1 : va_W => Qw w1) (fun w1 t => va_P G.2.1 vwCl w1 t.heap ∧ va_D A w1) A
def nPc (G : ZG) (h0 : Nat) (w0 : va_W) (sz : Nat) : Array Value → State → Prop := va_Pc [.ref h0] (fun U => U.heap.size = sz ∧ va_P G.2.1 vwCl w0 U.heap ∧ nK G U ∧ va_D (fun _ => True) w0)
def nC (G : ZG) (d : Nat) (M : ZM) (h0 : Nat) (w0 : va_W) (mc ms : Nat) (Qw : va_W → Prop) : Prop := ∀ sz : Nat, Met G.1 M.1 (zws M) (nRm d mc ms) (nPc G h0 w0 sz) (nQ G Qw (va_A w0 sz)) mc ms (va_A w0 sz)
def nZ (G : ZG) (Qw : va_W → Prop) (A : Nat → Prop) (mc ms : Nat) : NZ := fun below args s => MQ below (nQ G Qw A) args s mc ms A
theorem nC_of {G : ZG} {d : Nat} {M : ZM} {h0 : Nat} {w0 : va_W} {mc ms : Nat} {Qw : va_W → Prop} (hy : plainName M.1.cls = true) (hn : 1 ≤ M.2.2.1) (k : ∀ A : Nat → Prop, nT G (nRm d mc ms) A (nZ G Qw A mc ms) (fun _ _ => True) M 0 [(0, .ref h0)] [] w0 0 0) : nC G d M h0 w0 mc ms Qw := by
  intro sz
  refine Met.ofW (cc := M.2.1) (maxL := M.2.2.1) (ret := M.2.2.2) hy rfl ?_
  intro p e s m args below meth c s₁ B hml hv
  obtain ⟨rfl, hsz, hP, hK, hD0⟩ := hv
  have hts := atoms_spec (ws := zws M) B.pre
  subst hsz
  have hD := hD0.self (sz := s.heap.size)
  have hX : nX G M p s m ([Value.ref h0] : List Value).toArray meth c := ⟨B.exec, B.bytes, hml, B.returns, fun w hw => hts w (List.mem_cons_of_mem _ hw), findClass_of_methodNamed B.named, B.notSynchronized, fun q => by rw [(name_of_methodNamed B.named B.method).1]; exact q, hK⟩
  rw [lg_entry_eq]
  have hl := lv_entry ([.ref h0]) (n := M.2.2.1) hn
  exact k (va_A w0 s.heap.size) p e s m _ below meth c s.heap [] _ hX trivial (fun q h => Or.inr h) va_S.rf hP hD hl
theorem nt_ret {G : ZG} {R : Room} {A : Nat → Prop} {K : NP} {M : ZM} {pc pc' : Nat} {L : List (Nat × Value)} {w : va_W} {cells slots mc ms : Nat} {Qw : va_W → Prop} (hd : zD M.2.1 pc pc' .return_ 1) (hr0 : M.2.2.2 = none) (hc : cells ≤ mc) (hs : slots ≤ ms) (hq : Qw w) : nT G R A (nZ G Qw A mc ms) K M pc L [] w cells slots := by
  obtain ⟨hd, rfl⟩ := hd
  intro p e s m args below meth c H locs ls hX hK hA hS hP hD hL
  obtain ⟨hx, hb, hml, hr, hts, hown, hlk, hin, hk⟩ := id hX
  refine W.widen (k := mc) (n := ms) hc hs ?_
  exact W.vret hx hb (hr.trans hr0) (fun t ht hW => ⟨⟨w, rfl, hq, by rw [ht]; exact hP, hD⟩, hS.F ht⟩) hS.2.2 hd hlk
/-- the call of a constructor on the last cell -/
def nIS (own : String) (index : Nat) (M : ZM) : Prop := (∃ host, Cond.methodLinkNest own index M.1 host ∈ znw) ∧ Cond.instanceMethod M.1 ∈ zall ∧ Cond.initialized M.1.cls ∈ zall ∧ Cond.code M.1 M.2.1 M.2.2.1 M.2.2.2 ∈ zall ∧ M.2.2.2 = none ∧ M.1.name = "<init>" ∧ (M.1.cls ≠ "java/lang/invoke/MethodHandle" ∧ M.1.cls ≠ "java/lang/invoke/VarHandle" ∧ (parseMethodDescriptor M.1.desc).map (fun d => d.parameters.length) = some 0) ∧ M.2.2.1 ≤ 29
theorem va_nd_of : ∀ l : List Nat, l.Nodup → va_nd l = true := by
  intro l
  induction l with
  | nil => intro _; rfl
  | cons a l ih =>
    intro h
    rw [List.nodup_cons] at h
    rw [va_nd, Bool.and_eq_true, decide_eq_true_eq]
    exact ⟨h.1, ih h.2⟩
theorem va_nd_range (n : Nat) : va_nd (List.range n) = true := va_nd_of _ List.nodup_range
theorem nt_init {G : ZG} {R : Room} {A : Nat → Prop} {Z : NZ} {K : NP} {M N : ZM} {pc pc' : Nat} {L : List (Nat × Value)} {S : List Value} {wr : va_W} {cells slots d mc ms index q0 : Nat} {e0 : va_E} {Qw : va_W → Prop} (hd : zD M.2.1 pc pc' (.invokespecial index) 3) (hs : nIS M.1.cls index N) (hC : nC G d N q0 [(q0, e0)] mc ms Qw) (hRf : d + 1 ≤ R.frames) (hRl : 48 * d + 48 ≤ R.locals) (hRc : cells + mc ≤ R.cells) (hRs : slots + ms ≤ R.slots) (hS4 : (S.map fun v => v.category).sum ≤ 8) (kk : ∀ w1, Qw w1 → nT G R A Z K M pc' L S (wr ++ w1) (cells + mc) (slots + ms)) : nT G R A Z K M pc L (.ref q0 :: S) (wr ++ [(q0, e0)]) cells slots := by
  obtain ⟨hd, rfl⟩ := hd
  intro p e s m args below meth c H locs ls hX hK hA hS hP hD hL
  obtain ⟨hx, hb, hml, hr, hts, hown, hlk, hin, hk⟩ := id hX
  obtain ⟨⟨host, w1⟩, w2, w3, w4, w5, w6, w7, w8⟩ := hs
  have cw := va_cnB (R := R) (s := s) (args := args) (own := M.1.cls) (host := host) (index := index) (y := N.1) (bytes := N.2.1) (maxL := N.2.2.1) (mc := mc) (ms := ms) (ret := N.2.2.2) (Ts := zall) (ws := zws N) (rm := nRm d mc ms) 0 hts (z_ws N w4) rfl rfl rfl (hk.1.2.1 _ w1) (hts _ w3) w7 ⟨hRf, by show 8 + (N.2.2.1 + 11) + 48 * d ≤ R.locals; omega⟩
  rw [w5] at cw
  have hlast : (wr ++ [(q0, e0)])[wr.length]? = some (q0, e0) := by simp
  have hPc : va_P G.2.1 vwCl [(q0, e0)] H := hP.sub [wr.length] (by simp)
  have hDc : va_D A [(q0, e0)] := hD.sub [wr.length] rfl (by simp)
  have hFc := va_free (wc := [(q0, e0)]) hD hS hA [wr.length] (by simp)
  refine va_callv (post := fun w1 : va_W => Qw w1) (B := fun w1 t => va_P G.2.1 vwCl w1 t.heap ∧ va_D (va_A [(q0, e0)] H.size) w1) (A1 := va_A [(q0, e0)] H.size) (va_runIN (As := []) (rest := S) ⟨hx, hb, hml, hown, hts⟩ (hC H.size) ⟨cw, w6, hts _ w2⟩ ⟨fun a U g mk q => ?_, fun U hU hW => ?_⟩ rfl rfl hL.1 rfl (by show 2 * 0 + _ ≤ 8; omega) hd ⟨hRc, hRs⟩) hS (fun q _ h => hFc q h) hFc (fun u t H1 locs1 ht hvm hw hB hz1 hk1 hS1 => ?_)
  · obtain ⟨q0, q1, qP, qK, qD⟩ := q
    exact ⟨q0, q1, qP, nK.same (s := U) (U := U.calling g mk a) rfl qK, qD⟩
  · exact ⟨rfl, by rw [hU], by rw [hU]; exact hPc, nK.warm hW hk, hDc.weaken (fun _ _ _ _ => trivial)⟩
  · obtain ⟨hP1, hD1⟩ := hB
    rw [ht] at hP1
    have hR : (List.range wr.length).map (fun i => (wr ++ [(q0, e0)])[i]?) = wr.map some := by
      apply List.ext_getElem?
      intro i
      rw [List.getElem?_map, List.getElem?_map]
      by_cases hi : i < wr.length
      · rw [List.getElem?_range hi, List.getElem?_eq_getElem hi]
        simp [List.getElem?_append_left hi, hi]
      · rw [List.getElem?_eq_none (by simpa using hi), List.getElem?_eq_none (by omega)]
        rfl
    have hdis : ∀ i ∈ List.range wr.length, i ∉ [wr.length] := by
      intro i hi
      have := List.mem_range.mp hi
      simp
      omega
    obtain ⟨hP2, hD2⟩ := va_join (wr := wr) (w1 := u) hP hD [wr.length] (List.range wr.length) (wc := [(q0, e0)]) (by simp) hR (va_nd_range wr.length) hdis hk1 hFc hP1 hD1
    exact kk u hw p e s m args below meth c H1 locs1 ls hX hK hA hS1 hP2 hD2 hL
