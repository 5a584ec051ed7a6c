/-! ===== more rules: booleans, names for values, calls of the stones ===== -/
def zb (c : Prop) [Decidable c] : Int32 := if c then 1 else 0
theorem zb_01 (c : Prop) [Decidable c] : zb c = 0 ∨ zb c = 1 := by
  unfold zb
  by_cases h : c
  · rw [if_pos h]; exact Or.inr rfl
  · rw [if_neg h]; exact Or.inl rfl
theorem zb_eq0 {c : Prop} [Decidable c] : zb c = 0 ↔ ¬ c := by
  unfold zb
  by_cases h : c
  · rw [if_pos h]; simp [h]
  · rw [if_neg h]; simp [h]
theorem zb_eq1 {c : Prop} [Decidable c] : zb c = 1 ↔ c := by
  unfold zb
  by_cases h : c
  · rw [if_pos h]; simp [h]
  · rw [if_neg h]; simp [h]
theorem zb_t {c : Prop} [Decidable c] (h : c) : zb c = 1 := zb_eq1.mpr h
theorem zb_f {c : Prop} [Decidable c] (h : ¬ c) : zb c = 0 := zb_eq0.mpr h
theorem zb_congr {a b : Prop} [Decidable a] [Decidable b] (h : a ↔ b) : zb a = zb b := by
  by_cases q : a
  · rw [zb_t q, zb_t (h.mp q)]
  · rw [zb_f q, zb_f (fun z => q (h.mpr z))]
theorem zt_ifb_eq {G : ZG} {d : Nat} {M : ZM} {pc pc' tgt : Nat} {L S : List ZV} {h : ZH} {Q : Option ZV → ZH → Prop} {P : Prop} [Decidable P] {off : Int} (hd : zB M.2.1 pc pc' tgt (.ifCond .eq off) off) (kt : ¬ P → zT G d M tgt L S h Q) (kf : P → zT G d M pc' L S h Q) : zT G d M pc L (zi (zb P) :: S) h Q :=
  zt_if_eq hd (fun c => kt (zb_eq0.mp c)) (fun c => kf (Classical.byContradiction fun q => c (zb_eq0.mpr q)))
theorem zt_ifb_ne {G : ZG} {d : Nat} {M : ZM} {pc pc' tgt : Nat} {L S : List ZV} {h : ZH} {Q : Option ZV → ZH → Prop} {P : Prop} [Decidable P] {off : Int} (hd : zB M.2.1 pc pc' tgt (.ifCond .ne off) off) (kt : P → zT G d M tgt L S h Q) (kf : ¬ P → zT G d M pc' L S h Q) : zT G d M pc L (zi (zb P) :: S) h Q :=
  zt_if_ne hd (fun c => kt (Classical.byContradiction fun q => c (zb_eq0.mpr q))) (fun c => kf (zb_eq0.mp c))
theorem zt_topi {G : ZG} {d : Nat} {M : ZM} {pc : Nat} {L S : List ZV} {h : ZH} {Q : Option ZV → ZH → Prop} {x : Int32} (k : ∀ y, y = x → zT G d M pc L (zi y :: S) h Q) : zT G d M pc L (zi x :: S) h Q := k x rfl
theorem zt_topl {G : ZG} {d : Nat} {M : ZM} {pc : Nat} {L S : List ZV} {h : ZH} {Q : Option ZV → ZH → Prop} {x : Int64} (k : ∀ y, y = x → zT G d M pc L (zl y :: S) h Q) : zT G d M pc L (zl x :: S) h Q := k x rfl
theorem zt_heap {G : ZG} {d : Nat} {M : ZM} {pc : Nat} {L S : List ZV} {h : ZH} {Q : Option ZV → ZH → Prop} (k : ∀ h', h' = h → zT G d M pc L S h' Q) : zT G d M pc L S h Q := k h rfl
theorem zvp_dec {i : Int32} {n : Nat} (h : (decide (i < 0) || decide (n ≤ i.toNatClampNeg)) = false) : vp_in i n := by
  unfold vp_in
  intro q
  rw [Bool.or_eq_false_iff, decide_eq_false_iff_not, decide_eq_false_iff_not] at h
  rcases q with q | q
  · exact h.1 q
  · exact h.2 q
theorem zvp_lt {i : Int32} {n : Nat} (h : vp_in i n) : i.toNatClampNeg < n := Nat.not_le.mp fun q => h (Or.inr q)
theorem zok3 {i : Int32} (h : vp_in i 8) : i.toNatClampNeg < zcnt 3 := zvp_lt h
theorem zok4 {i : Int32} (h : vp_in i 8) : i.toNatClampNeg < zcnt 4 := zvp_lt h
theorem zcl4 {i : Nat} (h : i < zcnt 4) : ∃ (C : String) (T : u_T), vwCl[zsc i]? = some (C, T, 0) := by
  rcases (show i = 0 ∨ i = 1 ∨ i = 2 ∨ i = 3 ∨ i = 4 ∨ i = 5 ∨ i = 6 ∨ i = 7 by have : i < 8 := h; omega) with rfl | rfl | rfl | rfl | rfl | rfl | rfl | rfl
  all_goals exact ⟨_, _, rfl⟩
/-- a call by a site that names a stone's method X, on the stone (4, i): some method of its class runs -/
def zCX (G : ZG) (d : Nat) (own : String) (index : Nat) (X : ZM) (i : Nat) (as : List ZV) (n : Nat) (h : ZH) (Q : Option ZV → ZH → Prop) : Prop := ∃ N : ZM, zOS own index (zsc i) X N n ∧ zC G d N (zr 4 i :: as) h Q
theorem zt_cX {G : ZG} {d : Nat} {M X : ZM} {pc pc' : Nat} {L S : List ZV} {h : ZH} {Q Q1 : Option ZV → ZH → Prop} {as : List ZV} {i index n : Nat} {S0 : List ZV} (hd : zD M.2.1 pc pc' (.invokevirtual index) 3) (hC : zCX G d M.1.cls index X i as n h Q1) (hi : i < zcnt 4) (hn : as.length = n) (hS4 : S.length ≤ 4) (hS0 : S0 = as.reverse ++ (zr 4 i :: S)) (kk : ∀ r h', Q1 r h' → zT G (d + 1) M pc' L (r.toList ++ S) h' Q) : zT G (d + 1) M pc L S0 h Q := by
  obtain ⟨N, h1, h2⟩ := hC
  exact zt_cO hd h1 rfl hi hn hS4 hS0 h2 kk
theorem zCX_mono {G : ZG} {d : Nat} {own : String} {index : Nat} {X : ZM} {i : Nat} {as : List ZV} {n : Nat} {h : ZH} {Q Q' : Option ZV → ZH → Prop} (k : zCX G d own index X i as n h Q) (hq : ∀ r h', Q r h' → Q' r h') : zCX G d own index X i as n h Q' := by
  obtain ⟨N, h1, h2⟩ := k
  exact ⟨N, h1, zC_mono h2 hq⟩
theorem zall_list {ws : List Cond} (ps : List Nat) (hp : ws = ps.filterMap (fun i => tables_1[i]?)) (hg : ws.all goodWord = true) : ∀ w ∈ ws, w ∈ zall := by
  intro w hw
  have hgw := List.all_eq_true.mp hg w hw
  rw [hp] at hw
  obtain ⟨i, -, hi⟩ := List.mem_filterMap.mp hw
  exact zall_of (List.mem_append_right _ (List.mem_of_getElem? hi)) hgw
theorem wmk {w : Cond} (i : Nat) (h : tables_1[i]? = some w) (hg : goodWord w = true) : w ∈ zall := zall_of (List.mem_append_right _ (List.mem_of_getElem? h)) hg
theorem wnk {w : Cond} (i : Nat) (h : tables_1[i]? = some w) (hg : znwb w = true) : w ∈ znw := znw_of (List.mem_of_getElem? h) hg
theorem wpk {w : Cond} (i : Nat) (h : (k2_sels lw_privs)[i]? = some w) (hg : goodWord w = true) : w ∈ zall := zall_of (List.mem_append_left _ (List.mem_of_getElem? h)) hg
