/-! ===== the pure picture: values, heaps, the table of objects ===== -/
abbrev ZV : Type := Sum Int32 (Sum Int64 (Sum (Nat × Nat) Unit))
abbrev zi (x : Int32) : ZV := Sum.inl x
abbrev zl (x : Int64) : ZV := Sum.inr (Sum.inl x)
abbrev zr (k i : Nat) : ZV := Sum.inr (Sum.inr (Sum.inl (k, i)))
abbrev zu : ZV := Sum.inr (Sum.inr (Sum.inr ()))
abbrev ZH : Type := (Nat → Nat → Nat → Int32) × (Nat → Nat → Nat → Int64)
abbrev ZG : Type := Launch × va_G × (Nat → ClassId) × (Nat → Nat → Nat)
abbrev ZM : Type := MethodName × ByteArray × Nat × Option FieldType
def zc (G : ZG) : ZV → Value
  | Sum.inl x => .int x
  | Sum.inr (Sum.inl x) => .long x
  | Sum.inr (Sum.inr (Sum.inl q)) => .ref (G.2.2.2 q.1 q.2)
  | Sum.inr (Sum.inr (Sum.inr _)) => .null
/-- the class (its place in vwCl) of the stone of a kind -/
def zsc (i : Nat) : Nat := match i with
  | 0 => 10
  | 1 => 2
  | 2 => 0
  | 3 => 7
  | 4 => 5
  | 5 => 9
  | 6 => 1
  | _ => 6
/-- how many objects of a kind there are -/
def zcnt (k : Nat) : Nat := ([1, 1, 3, 8, 8, 1, 0, 0, 0, 0, 3, 3, 3, 3, 3, 3, 8, 1, 1, 1, 1, 1, 1, 0, 0, 0, 0, 0, 0, 0, 1, 1, 1, 1, 1, 1, 1, 1, 1, 1, 1, 1, 1, 1, 1] : List Nat).getD k 0
/-- an object of a kind: its class and how many fields; or an array: the kind of its elements and how many -/
def zkd (k i : Nat) : Sum (Nat × Nat) (Nat × Nat) := match k with
  | 0 => .inl (11, 7)
  | 1 => .inl (3, 6)
  | 2 => .inl (4, 10)
  | 3 => .inl (8, 6)
  | 4 => .inl (zsc i, 0)
  | 5 => .inl (12, 24)
  | 10 => .inr (0, 12)
  | 11 => .inr (0, 12)
  | 12 => .inr (0, 12)
  | 13 => .inr (0, 12)
  | 14 => .inr (0, 12)
  | 15 => .inr (0, 12)
  | 16 => .inr (0, 100)
  | 17 => .inr (0, 4096)
  | 18 => .inr (0, 4096)
  | 19 => .inr (1, 12)
  | 20 => .inr (1, 13)
  | 21 => .inr (3, 8)
  | 22 => .inr (4, 8)
  | 30 => .inr (0, 26)
  | 31 => .inr (0, 26)
  | 32 => .inr (0, 26)
  | 33 => .inr (0, 12)
  | 34 => .inr (0, 3)
  | 35 => .inr (0, 4096)
  | 36 => .inr (2, 4096)
  | 37 => .inr (2, 4096)
  | 38 => .inr (0, 8)
  | 39 => .inr (0, 8)
  | 40 => .inr (0, 8)
  | 41 => .inr (0, 8)
  | 42 => .inr (0, 8)
  | 43 => .inr (0, 800)
  | 44 => .inr (1, 1)
  | _ => .inr (0, 0)
/-- which object a field of an object refers to; none: it holds a number -/
def zrf (k j i : Nat) : Option (Nat × Nat) := match k with
  | 0 => (match j with
    | 0 => some (21, 0)
    | 1 => some (1, 0)
    | 2 => some (2, 0)
    | 3 => some (2, 1)
    | 4 => some (2, 2)
    | 5 => some (22, 0)
    | _ => none)
  | 1 => (match j with
    | 0 => some (2, 0)
    | 1 => some (17, 0)
    | 2 => some (18, 0)
    | 3 => some (19, 0)
    | 4 => some (20, 0)
    | _ => none)
  | 2 => (match j with
    | 0 => some (10, i)
    | 1 => some (11, i)
    | 2 => some (12, i)
    | 3 => some (13, i)
    | 4 => some (14, i)
    | 5 => some (15, i)
    | _ => none)
  | 3 => (match j with
    | 5 => some (16, i)
    | _ => none)
  | 5 => (match j with
    | 0 => some (30, 0)
    | 1 => some (31, 0)
    | 2 => some (32, 0)
    | 4 => some (33, 0)
    | 9 => some (34, 0)
    | 10 => some (35, 0)
    | 15 => some (36, 0)
    | 16 => some (37, 0)
    | 17 => some (38, 0)
    | 18 => some (39, 0)
    | 19 => some (40, 0)
    | 20 => some (41, 0)
    | 21 => some (42, 0)
    | 22 => some (43, 0)
    | _ => none)
  | _ => none
/-- what the elements of an array of references refer to -/
def zre (k : Nat) : Nat := match k with
  | 21 => 4
  | _ => 3
def zfr (a : Nat → Int32) (k i j : Nat) : ZV := match zrf k j i with
  | some q => zr q.1 q.2
  | none => zi (a j)
def zf (h : ZH) (k i j : Nat) : ZV := zfr (h.1 k i) k i j
def zEr (G : ZG) (a : Nat → Int32) (b : Nat → Int64) (k i : Nat) : va_E := match zkd k i with
  | .inl o => .inr (o.1, (List.range o.2).map (fun j => zc G (zfr a k i j)))
  | .inr t => match t.1 with
    | 0 => .inl (G.2.2.1 0, t.2, .inl a)
    | 1 => .inl (G.2.2.1 1, t.2, .inr (.inl b))
    | 2 => .inl (G.2.2.1 2, t.2, .inl a)
    | n => .inl (G.2.2.1 n, t.2, .inr (.inr (.inr (.inr (fun j => some (G.2.2.2 (zre k) j))))))
def zE (G : ZG) (h : ZH) (k i : Nat) : va_E := zEr G (h.1 k i) (h.2 k i) k i
def zs1 (h : ZH) (k i j : Nat) (v : Int32) : ZH := (fun k' i' j' => if k' = k ∧ i' = i ∧ j' = j then v else h.1 k' i' j', h.2)
def zs2 (h : ZH) (k i j : Nat) (v : Int64) : ZH := (h.1, fun k' i' j' => if k' = k ∧ i' = i ∧ j' = j then v else h.2 k' i' j')
def zdom : List (Nat × Nat) := (List.range 45).flatMap fun k => (List.range (zcnt k)).map fun i => (k, i)
theorem zdom_nd : zdom.Nodup := by decide +kernel
theorem zcnt_le (k : Nat) (h : 0 < zcnt k) : k < 45 := by
  rcases Nat.lt_or_ge k 45 with q | q
  · exact q
  · have : zcnt k = 0 := by
      unfold zcnt
      rw [List.getD_eq_getElem?_getD, List.getElem?_eq_none (by simpa using q)]
      rfl
    omega
theorem zdom_in {k i : Nat} (h : i < zcnt k) : (k, i) ∈ zdom := by
  unfold zdom
  rw [List.mem_flatMap]
  exact ⟨k, List.mem_range.mpr (zcnt_le k (by omega)), List.mem_map.mpr ⟨i, List.mem_range.mpr h, rfl⟩⟩
def zL (G : ZG) (h : ZH) : va_W := zdom.map (fun q => (G.2.2.2 q.1 q.2, zE G h q.1 q.2))
def zInj (G : ZG) : Prop := ∀ q ∈ zdom, ∀ r ∈ zdom, G.2.2.2 q.1 q.2 = G.2.2.2 r.1 r.2 → q = r
def zA (G : ZG) : Nat → Prop := fun a => ∃ q ∈ zdom, a = G.2.2.2 q.1 q.2
def zW (G : ZG) (h : ZH) (H : Heap) : Prop := va_P G.2.1 vwCl (zL G h) H
theorem zL_at (G : ZG) (h : ZH) {k i : Nat} (hk : i < zcnt k) : ∃ p : Nat, zdom[p]? = some (k, i) ∧ (zL G h)[p]? = some (G.2.2.2 k i, zE G h k i) := by
  obtain ⟨p, hp⟩ := List.getElem?_of_mem (zdom_in hk)
  exact ⟨p, hp, by unfold zL; rw [List.getElem?_map, hp]; rfl⟩
theorem zdom_inj {p q : Nat} {x : Nat × Nat} (hp : zdom[p]? = some x) (hq : zdom[q]? = some x) : p = q := by
  exact (List.getElem?_inj (List.getElem?_eq_some_iff.mp hp).1 zdom_nd).mp (hp.trans hq.symm)
theorem zL_set (G : ZG) {h h' : ZH} {k i p : Nat} {e : va_E} (hp : zdom[p]? = some (k, i)) (he : zE G h' k i = e) (ho : ∀ k' i', ¬ (k' = k ∧ i' = i) → zE G h' k' i' = zE G h k' i') : (zL G h).set p (G.2.2.2 k i, e) = zL G h' := by
  apply List.ext_getElem?
  intro q
  unfold zL
  rw [List.getElem?_set, List.getElem?_map, List.getElem?_map]
  by_cases hq : p = q
  · subst hq
    have hl : p < (List.map (fun q => (G.2.2.2 q.1 q.2, zE G h q.1 q.2)) zdom).length := by
      rw [List.length_map]; exact (List.getElem?_eq_some_iff.mp hp).1
    rw [if_pos rfl, if_pos hl, hp]
    simp [he]
  · rw [if_neg hq]
    cases hx : zdom[q]? with
    | none => rfl
    | some x =>
      simp only [Option.map_some]
      congr 2
      refine (ho x.1 x.2 ?_).symm
      rintro ⟨e1, e2⟩
      exact hq (zdom_inj hp (by rw [hx, ← e1, ← e2]))
theorem zE_o1 (G : ZG) (h : ZH) {k i j : Nat} (v : Int32) (k' i' : Nat) (hn : ¬ (k' = k ∧ i' = i)) : zE G (zs1 h k i j v) k' i' = zE G h k' i' := by
  unfold zE
  have : (zs1 h k i j v).1 k' i' = h.1 k' i' := by
    funext j'
    show (if k' = k ∧ i' = i ∧ j' = j then v else h.1 k' i' j') = _
    rw [if_neg (fun q => hn ⟨q.1, q.2.1⟩)]
  rw [this]
  rfl
theorem zE_o2 (G : ZG) (h : ZH) {k i j : Nat} (v : Int64) (k' i' : Nat) (hn : ¬ (k' = k ∧ i' = i)) : zE G (zs2 h k i j v) k' i' = zE G h k' i' := by
  unfold zE
  have : (zs2 h k i j v).2 k' i' = h.2 k' i' := by
    funext j'
    show (if k' = k ∧ i' = i ∧ j' = j then v else h.2 k' i' j') = _
    rw [if_neg (fun q => hn ⟨q.1, q.2.1⟩)]
  rw [this]
  rfl
theorem zs1_row (h : ZH) (k i j : Nat) (v : Int32) : (zs1 h k i j v).1 k i = upd (h.1 k i) j v := by
  funext q
  simp [zs1, upd]
theorem zs2_row (h : ZH) (k i j : Nat) (v : Int64) : (zs2 h k i j v).2 k i = vp_updL (h.2 k i) j v := by
  funext q
  simp [zs2, vp_updL]
theorem zE_obj (G : ZG) (h : ZH) {k i ci N : Nat} (hk : zkd k i = .inl (ci, N)) : zE G h k i = .inr (ci, (List.range N).map (fun j => zc G (zf h k i j))) := by
  unfold zE zEr
  rw [hk]
  rfl
theorem zE_int (G : ZG) (h : ZH) {k i n : Nat} (hk : zkd k i = .inr (0, n)) : zE G h k i = .inl (G.2.2.1 0, n, .inl (h.1 k i)) := by
  unfold zE zEr
  rw [hk]
  rfl
theorem zE_long (G : ZG) (h : ZH) {k i n : Nat} (hk : zkd k i = .inr (1, n)) : zE G h k i = .inl (G.2.2.1 1, n, .inr (.inl (h.2 k i))) := by
  unfold zE zEr
  rw [hk]
  rfl
theorem zE_bool (G : ZG) (h : ZH) {k i n : Nat} (hk : zkd k i = .inr (2, n)) : zE G h k i = .inl (G.2.2.1 2, n, .inl (h.1 k i)) := by
  unfold zE zEr
  rw [hk]
  rfl
theorem zE_ref (G : ZG) (h : ZH) {k i t n : Nat} (hk : zkd k i = .inr (t + 3, n)) : zE G h k i = .inl (G.2.2.1 (t + 3), n, .inr (.inr (.inr (.inr (fun j => some (G.2.2.2 (zre k) j)))))) := by
  unfold zE zEr
  rw [hk]
  rfl
theorem zf_num (h : ZH) {k i j : Nat} (hj : zrf k j i = none) : zf h k i j = zi (h.1 k i j) := by
  unfold zf zfr
  rw [hj]
theorem zE_putobj (G : ZG) (h : ZH) {k i ci N j : Nat} (v : Int32) (hk : zkd k i = .inl (ci, N)) (hj : zrf k j i = none) (hjN : j < N) : zE G (zs1 h k i j v) k i = .inr (ci, ((List.range N).map (fun j => zc G (zf h k i j))).set j (.int v)) := by
  rw [zE_obj G _ hk]
  congr 2
  apply List.ext_getElem?
  intro q
  rw [List.getElem?_set, List.getElem?_map, List.getElem?_map, List.length_map, List.length_range]
  by_cases hq : j = q
  · subst hq
    rw [if_pos rfl, if_pos hjN, List.getElem?_range hjN]
    simp only [Option.map_some]
    rw [zf_num _ hj]
    simp [zs1, zc]
  · rw [if_neg hq]
    cases hx : (List.range N)[q]? with
    | none => rfl
    | some x =>
      simp only [Option.map_some]
      have hxq : x = q := by
        have := (List.getElem?_eq_some_iff.mp hx).2
        simpa using this.symm
      subst hxq
      have : zf (zs1 h k i j v) k i x = zf h k i x := by
        unfold zf zfr
        cases zrf k x i with
        | some q => rfl
        | none =>
          simp only
          congr 1
          show (if k = k ∧ i = i ∧ x = j then v else h.1 k i x) = _
          rw [if_neg (fun z => hq z.2.2.symm)]
      rw [this]
theorem zD_of (G : ZG) (h : ZH) (hI : zInj G) : va_D (zA G) (zL G h) := by
  refine ⟨fun a b x y hx hy hxy => ?_, fun a x hx => ?_⟩
  · unfold zL at hx hy
    rw [List.getElem?_map] at hx hy
    cases ha : zdom[a]? with
    | none => rw [ha] at hx; cases hx
    | some q =>
      cases hb : zdom[b]? with
      | none => rw [hb] at hy; cases hy
      | some r =>
        rw [ha] at hx; rw [hb] at hy
        cases hx; cases hy
        have : q = r := hI q (List.mem_of_getElem? ha) r (List.mem_of_getElem? hb) hxy
        subst this
        exact zdom_inj ha hb
  · unfold zL at hx
    rw [List.getElem?_map] at hx
    cases ha : zdom[a]? with
    | none => rw [ha] at hx; cases hx
    | some q =>
      rw [ha] at hx
      cases hx
      exact ⟨q, List.mem_of_getElem? ha, rfl⟩
theorem zA_in (G : ZG) {k i : Nat} (hk : i < zcnt k) : zA G (G.2.2.2 k i) := ⟨(k, i), zdom_in hk, rfl⟩
