/-! ===== the start of the law ===== -/
theorem st_x {args : Array Value} {s : State} (l : Launch) (hflags : l.flags = flags0) (hts : ∀ w ∈ lw_tbl, w.before args s = true) (hs : ∀ w ∈ flatC (Jvm.Cond.and given_1 narrow_1), w.before args s = true) (G : ZG) (hl : G.1 = l) : xcK G s := by
  refine ⟨?_, ?_, ?_, ?_, ?_⟩
  · rw [hl]
    unfold Launch.stackTraces
    rw [hflags]
    decide
  · intro x hx
    have h : ∀ x ∈ xdec, Cond.declares x ∈ lw_tbl := by decide +kernel
    exact va_Nw.of rfl (hts _ (h x hx))
  · intro x hx
    have h : ∀ x ∈ xcas, Cond.castable x x ∈ lw_tbl := by decide +kernel
    exact va_Nw.of rfl (hts _ (h x hx))
  · intro q hq
    have h : ∀ q ∈ xnc, Cond.not (.castable q.1 q.2) ∈ flatC (Jvm.Cond.and given_1 narrow_1) := by decide +kernel
    exact va_Nc.of (hs _ (h q hq))
  · intro q hq
    have h1 : ∀ q ∈ xstr, Cond.stringRef q.1 q.2.1 q.2.2 ∈ lw_tbl := by decide +kernel
    have h2 : ∀ q ∈ xstr, Cond.exactly (.string q.1 q.2.1) "java/lang/String" ∈ flatC (Jvm.Cond.and given_1 narrow_1) := by decide +kernel
    obtain ⟨a, -, -, -, e, -⟩ := Cond.exactly_spec (hs _ (h2 q hq))
    exact ⟨a, vk_R.of (A := args) (hts _ (h1 q hq)) e⟩
theorem st_bes {args : Array Value} {s : State} (hts : ∀ w ∈ lw_tbl, w.before args s = true) (hs : ∀ w ∈ flatC (Jvm.Cond.and given_1 narrow_1), w.before args s = true) : ∃ bb : Nat, va_Z "CornerstoneSought" "BESIDE" "[I" (.ref bb) (fun q => s.heap.size ≤ q) s s.heap ∧ va_T .int bb 12 (fun j => .int (zbes j)) (fun q => s.heap.size ≤ q) s s.heap := by
  have hA : ∀ a : Nat, a < s.heap.size → ¬ (fun q => s.heap.size ≤ q) a := fun a h => Nat.not_le.mpr h
  obtain ⟨bb, h1, h2⟩ := va_Tof (tm := .static "CornerstoneSought" "BESIDE" "[I") (ty := .int) (N := 12) (f := fun j => .int (zbes j)) (A := fun q => s.heap.size ≤ q) (by decide) (hs _ (by decide +kernel)) (va_eqt (hs (.eq (.length (.static "CornerstoneSought" "BESIDE" "[I")) (.int 12)) (by decide +kernel))) (fun j hj => by
    rcases (show j = 0 ∨ j = 1 ∨ j = 2 ∨ j = 3 ∨ j = 4 ∨ j = 5 ∨ j = 6 ∨ j = 7 ∨ j = 8 ∨ j = 9 ∨ j = 10 ∨ j = 11 by omega) with rfl | rfl | rfl | rfl | rfl | rfl | rfl | rfl | rfl | rfl | rfl | rfl
    · exact va_eqt (hs (.eq (.elem (.static "CornerstoneSought" "BESIDE" "[I") (.int 0)) (.int 2)) (by decide +kernel))
    · exact va_eqt (hs (.eq (.elem (.static "CornerstoneSought" "BESIDE" "[I") (.int 1)) (.int 5)) (by decide +kernel))
    · exact va_eqt (hs (.eq (.elem (.static "CornerstoneSought" "BESIDE" "[I") (.int 2)) (.int 10)) (by decide +kernel))
    · exact va_eqt (hs (.eq (.elem (.static "CornerstoneSought" "BESIDE" "[I") (.int 3)) (.int 4)) (by decide +kernel))
    · exact va_eqt (hs (.eq (.elem (.static "CornerstoneSought" "BESIDE" "[I") (.int 4)) (.int 32)) (by decide +kernel))
    · exact va_eqt (hs (.eq (.elem (.static "CornerstoneSought" "BESIDE" "[I") (.int 5)) (.int 80)) (by decide +kernel))
    · exact va_eqt (hs (.eq (.elem (.static "CornerstoneSought" "BESIDE" "[I") (.int 6)) (.int 160)) (by decide +kernel))
    · exact va_eqt (hs (.eq (.elem (.static "CornerstoneSought" "BESIDE" "[I") (.int 7)) (.int 64)) (by decide +kernel))
    · exact va_eqt (hs (.eq (.elem (.static "CornerstoneSought" "BESIDE" "[I") (.int 8)) (.int 512)) (by decide +kernel))
    · exact va_eqt (hs (.eq (.elem (.static "CornerstoneSought" "BESIDE" "[I") (.int 9)) (.int 1280)) (by decide +kernel))
    · exact va_eqt (hs (.eq (.elem (.static "CornerstoneSought" "BESIDE" "[I") (.int 10)) (.int 2560)) (by decide +kernel))
    · exact va_eqt (hs (.eq (.elem (.static "CornerstoneSought" "BESIDE" "[I") (.int 11)) (.int 1024)) (by decide +kernel))) hA
  exact ⟨bb, va_Zof (hts _ (by decide +kernel)) (hts _ (by decide +kernel)) h1 hA, h2⟩
theorem va_Z.narrowA {C n d : String} {v : Value} {A B : Nat → Prop} {U : State} {H : Heap} (h : va_Z C n d v A U H) (hAB : ∀ q, B q → A q) : va_Z C n d v B U H := by
  obtain ⟨cf, kf, fi, f, a, cell, h1, h2, h3, h4, h5, h6, h7, h8⟩ := h
  exact ⟨cf, kf, fi, f, a, cell, h1, h2, h3, h4, h5, h6, h7, fun z => h8 (hAB _ z)⟩
theorem va_T.narrowA {ty : FieldType} {t N : Nat} {f : Nat → Value} {A B : Nat → Prop} {U : State} {H : Heap} (h : va_T ty t N f A U H) (hAB : ∀ q, B q → A q) : va_T ty t N f B U H := by
  obtain ⟨cell, h1, h2, h3, h4, h5, h6, h7⟩ := h
  exact ⟨cell, h1, h2, h3, h4, h5, h6, fun z => h7 (hAB _ z)⟩
theorem st_zlo {G : ZG} {ls : Array Slot} {b q1 q54 q69 : Nat} (e0 : G.2.2.2 45 0 = b) (e1 : G.2.2.2 0 0 = q1) (e2 : G.2.2.2 5 0 = q54) (e3 : G.2.2.2 44 0 = q69) (h : lv_has ls 8 [(4, .int 0), (3, .ref q69), (2, .ref q54), (1, .ref q1), (0, .ref b)]) : zlo G ls 8 (lL 0) := by
  subst e0; subst e1; subst e2; subst e3
  refine ⟨h.1, h.2.1, fun i v hi hv => ?_⟩
  match i, hi with
  | 0, hi => cases hi; exact h.2.2 (0, .ref (G.2.2.2 45 0)) (by simp)
  | 1, hi => cases hi; exact h.2.2 (1, .ref (G.2.2.2 0 0)) (by simp)
  | 2, hi => cases hi; exact h.2.2 (2, .ref (G.2.2.2 5 0)) (by simp)
  | 3, hi => cases hi; exact h.2.2 (3, .ref (G.2.2.2 44 0)) (by simp)
  | 4, hi => cases hi; exact h.2.2 (4, .int 0) (by simp)
  | 5, hi => cases hi; exact absurd rfl hv
  | 6, hi => cases hi; exact absurd rfl hv
  | 7, hi => cases hi; exact absurd rfl hv
  | i + 8, hi => simp [lL] at hi
theorem st_inj0 : ∀ q ∈ zdom, ∀ r ∈ zdom, 10000 * q.1 + q.2 = 10000 * r.1 + r.2 → q = r := by decide +kernel
set_option maxHeartbeats 4000000 in
set_option maxRecDepth 20000 in
/-- the law at its loop, out of the first heap -/
theorem st_loop {p : Program} {e : Env} {s : State} {m : MethodId} {below : List Frame} {meth : Method} {c : Code} (l : Launch) {D : va_G} {aC : Nat → ClassId} {b bb L : Nat} {xs : Nat → Int32} (hL : L ≤ 3072) {H : Heap} {locs : List Loc} {ls : Array Slot} {q1 : Nat} {q2 : Nat} {q3 : Nat} {q4 : Nat} {q5 : Nat} {q6 : Nat} {q7 : Nat} {q8 : Nat} {q9 : Nat} {q10 : Nat} {q11 : Nat} {q12 : Nat} {q13 : Nat} {q14 : Nat} {q15 : Nat} {q16 : Nat} {q17 : Nat} {q18 : Nat} {q19 : Nat} {q20 : Nat} {q21 : Nat} {q22 : Nat} {q23 : Nat} {q24 : Nat} {q25 : Nat} {q26 : Nat} {q27 : Nat} {q28 : Nat} {q29 : Nat} {q30 : Nat} {q31 : Nat} {q32 : Nat} {q33 : Nat} {q34 : Nat} {q35 : Nat} {q36 : Nat} {q37 : Nat} {q38 : Nat} {q39 : Nat} {q40 : Nat} {q41 : Nat} {q42 : Nat} {q43 : Nat} {q44 : Nat} {q45 : Nat} {q46 : Nat} {q47 : Nat} {q48 : Nat} {q49 : Nat} {q50 : Nat} {q51 : Nat} {q52 : Nat} {q53 : Nat} {q54 : Nat} {q55 : Nat} {q56 : Nat} {q57 : Nat} {q58 : Nat} {q59 : Nat} {q60 : Nat} {q61 : Nat} {q62 : Nat} {q63 : Nat} {q64 : Nat} {q65 : Nat} {q66 : Nat} {q67 : Nat} {q68 : Nat} {q69 : Nat}
    (hX : nX (l, D, aC, fun k i => 10000 * k + i) mL_law p s m #[.ref b] meth c) (hxK : ∀ ad, xcK (l, D, aC, ad) s) (hZ : va_Z "CornerstoneSought" "BESIDE" "[I" (.ref bb) (fun q => s.heap.size ≤ q) s s.heap) (hT : va_T .int bb 12 (fun j => .int (zbes j)) (fun q => s.heap.size ≤ q) s s.heap)
    (hU : vx_Zq Bundle.tN "UNASSIGNED_STACK" Bundle.steD (fun q => s.heap.size ≤ q) s s.heap) (hN : vx_Zq Bundle.tN "SUPPRESSED_SENTINEL" Bundle.listD (fun q => s.heap.size ≤ q) s s.heap) (hXs : va_X b L xs s s.heap) (hbl : b < s.heap.size)
    (hS : va_S (fun q => s.heap.size ≤ q) s.heap H locs) (hP : va_P D vwCl (lwW aC q1 q2 q3 q4 q5 q6 q7 q8 q9 q10 q11 q12 q13 q14 q15 q16 q17 q18 q19 q20 q21 q22 q23 q24 q25 q26 q27 q28 q29 q30 q31 q32 q33 q34 q35 q36 q37 q38 q39 q40 q41 q42 q43 q44 q45 q46 q47 q48 q49 q50 q51 q52 q53 q54 q55 q56 q57 q58 q59 q60 q61 q62 q63 q64 q65 q66 q67 q68 q69) H) (hD : va_D (fun q => s.heap.size ≤ q) (lwW aC q1 q2 q3 q4 q5 q6 q7 q8 q9 q10 q11 q12 q13 q14 q15 q16 q17 q18 q19 q20 q21 q22 q23 q24 q25 q26 q27 q28 q29 q30 q31 q32 q33 q34 q35 q36 q37 q38 q39 q40 q41 q42 q43 q44 q45 q46 q47 q48 q49 q50 q51 q52 q53 q54 q55 q56 q57 q58 q59 q60 q61 q62 q63 q64 q65 q66 q67 q68 q69)) (hl : lv_has ls 8 [(4, .int 0), (3, .ref q69), (2, .ref q54), (1, .ref q1), (0, .ref b)]) :
    W p l e room_1 s m #[.ref b] below meth c H locs 69 22586 (lw_Z below #[.ref b] s) (F0 m 23 ls []) := by
  obtain ⟨x1, x2, x3, x4, x5, x6, x7, -, x8⟩ := hX
  have hlen : (lwW aC q1 q2 q3 q4 q5 q6 q7 q8 q9 q10 q11 q12 q13 q14 q15 q16 q17 q18 q19 q20 q21 q22 q23 q24 q25 q26 q27 q28 q29 q30 q31 q32 q33 q34 q35 q36 q37 q38 q39 q40 q41 q42 q43 q44 q45 q46 q47 q48 q49 q50 q51 q52 q53 q54 q55 q56 q57 q58 q59 q60 q61 q62 q63 q64 q65 q66 q67 q68 q69).length = 69 := rfl
  have hAG : ∀ q, zA (l, D, aC, adr (lwW aC q1 q2 q3 q4 q5 q6 q7 q8 q9 q10 q11 q12 q13 q14 q15 q16 q17 q18 q19 q20 q21 q22 q23 q24 q25 q26 q27 q28 q29 q30 q31 q32 q33 q34 q35 q36 q37 q38 q39 q40 q41 q42 q43 q44 q45 q46 q47 q48 q49 q50 q51 q52 q53 q54 q55 q56 q57 q58 q59 q60 q61 q62 q63 q64 q65 q66 q67 q68 q69) b bb) q → s.heap.size ≤ q := by
    rintro q ⟨x, hx, rfl⟩
    exact adr_A hD hlen hx
  have hzK : zK (l, D, aC, adr (lwW aC q1 q2 q3 q4 q5 q6 q7 q8 q9 q10 q11 q12 q13 q14 q15 q16 q17 q18 q19 q20 q21 q22 q23 q24 q25 q26 q27 q28 q29 q30 q31 q32 q33 q34 q35 q36 q37 q38 q39 q40 q41 q42 q43 q44 q45 q46 q47 q48 q49 q50 q51 q52 q53 q54 q55 q56 q57 q58 q59 q60 q61 q62 q63 q64 q65 q66 q67 q68 q69) b bb) s := ⟨x8.1.1, x8.1.2.1, adr_inj hD hlen⟩
  have k := l_loop (G := (l, D, aC, adr (lwW aC q1 q2 q3 q4 q5 q6 q7 q8 q9 q10 q11 q12 q13 q14 q15 q16 q17 q18 q19 q20 q21 q22 q23 q24 q25 q26 q27 q28 q29 q30 q31 q32 q33 q34 q35 q36 q37 q38 q39 q40 q41 q42 q43 q44 q45 q46 q47 q48 q49 q50 q51 q52 q53 q54 q55 q56 q57 q58 q59 q60 q61 q62 q63 q64 q65 q66 q67 q68 q69) b bb)) (xs := xs) hL 513 0 rfl (by decide) h00 JY_first
  exact k p e s m #[.ref b] below meth c H locs ls ⟨⟨x1, x2, x3, x4, x5, x6, x7, hzK, hZ.narrowA hAG, hT.narrowA hAG⟩, hxK _, ⟨hU.narrow hAG, hN.narrow hAG⟩, rfl, hXs, hbl⟩ ⟨hAG, fun q h1 h2 => absurd h2 (Nat.not_le.mpr h1)⟩ hS (st_W b bb q1 q2 q3 q4 q5 q6 q7 q8 q9 q10 q11 q12 q13 q14 q15 q16 q17 q18 q19 q20 q21 q22 q23 q24 q25 q26 q27 q28 q29 q30 q31 q32 q33 q34 q35 q36 q37 q38 q39 q40 q41 q42 q43 q44 q45 q46 q47 q48 q49 q50 q51 q52 q53 q54 q55 q56 q57 q58 q59 q60 q61 q62 q63 q64 q65 q66 q67 q68 q69 hP) (st_zlo rfl rfl rfl rfl hl)
set_option maxHeartbeats 4000000 in
set_option maxRecDepth 20000 in
/-- YOUR PART: from the entry, for every script of at most 3072 ints, the law comes to its end with true ('hflags': the launch's flags, for a law that throws: no stack traces) -/
theorem whole_start {p : Program} {e : Env} {s : State} {m : MethodId} {below : List Frame} {meth : Method} {c : Code} (l : Launch) (hflags : l.flags = flags0) {b L : Nat} {xs : Nat → Int32} (hL : L ≤ 3072) (C0 : lw_At p s m meth c b L xs) : W p l e room_1 s m #[Value.ref b] below meth c s.heap [] 0 0 (lw_Z below #[Value.ref b] s) (entryFrame m ([Value.ref b] : List Value).toArray 8) := by
  obtain ⟨hx, hb, hr, hml, hown, hts, hX, hbl, hlocks, hgv⟩ := id C0
  have hz : ∀ w ∈ zall, w.before #[Value.ref b] s = true := fun w hw => hts w (List.mem_filter.mp hw).1
  have hs := flat_of_before _ hgv
  have hA : ∀ a : Nat, a < s.heap.size → ¬ (fun q => s.heap.size ≤ q) a := fun a h => Nat.not_le.mpr h
  obtain ⟨D, aC, hK⟩ := st_K hz hts
  obtain ⟨bb, hZ, hT⟩ := st_bes hts hs
  have hU : vx_Zq Bundle.tN "UNASSIGNED_STACK" Bundle.steD (fun q => s.heap.size ≤ q) s s.heap := vx_Zqof (hts _ (by decide +kernel)) (hts _ (by decide +kernel)) (hs _ (by decide +kernel)) hA
  have hN : vx_Zq Bundle.tN "SUPPRESSED_SENTINEL" Bundle.listD (fun q => s.heap.size ≤ q) s s.heap := vx_Zqof (hts _ (by decide +kernel)) (hts _ (by decide +kernel)) (hs _ (by decide +kernel)) hA
  have hnK : nK (l, D, aC, fun k i => 10000 * k + i) s := ⟨⟨hK l _, fun w hw => va_Nw.of (znw_on hw) (hts w (List.mem_append_right _ (List.mem_filter.mp hw).1)), st_inj0⟩, va_AO.of (hts _ (List.mem_append_right _ (List.mem_of_getElem? (i := 34) (by decide +kernel)))), va_AO.of (hts _ (List.mem_append_right _ (List.mem_of_getElem? (i := 168) (by decide +kernel)))), fun C hC => by
    have h : ∀ C ∈ zsub, Cond.castable C RX10 ∈ lw_tbl := by decide +kernel
    exact va_Nw.of rfl (hts _ (h C hC))⟩
  have hl := lv_entry ([.ref b]) (n := 8) (Nat.le_of_ble_eq_true rfl)
  rw [lg_entry_eq]
  generalize (lg_sl ([.ref b]) ++ List.replicate (8 - (lg_sl ([.ref b])).length) Slot.unset).toArray = ls at hl ⊢
  have hl : lv_has ls 8 [(0, .ref b)] := hl
  have hP : va_P D vwCl [] s.heap := fun k q h => by simp at h
  have hD : va_D (fun q : Nat => s.heap.size ≤ q) [] := ⟨fun i j p q h => by simp at h, fun k q h => by simp at h⟩
  have hX0 : nX (l, D, aC, fun k i => 10000 * k + i) mL_law p s m #[.ref b] meth c := ⟨hx, hb, hml, hr, hz, hown, hlocks, fun h => absurd h (by decide), hnK⟩
  have key := lw_prefix (G := (l, D, aC, fun k i => 10000 * k + i)) (A := fun q => s.heap.size ≤ q) (Z := lwZ) (K := fun s' args => s = s' ∧ args = #[.ref b]) (b := b) (by
    intro q1 q2 q3 q4 q5 q6 q7 q8 q9 q10 q11 q12 q13 q14 q15 q16 q17 q18 q19 q20 q21 q22 q23 q24 q25 q26 q27 q28 q29 q30 q31 q32 q33 q34 q35 q36 q37 q38 q39 q40 q41 q42 q43 q44 q45 q46 q47 q48 q49 q50 q51 q52 q53 q54 q55 q56 q57 q58 q59 q60 q61 q62 q63 q64 q65 q66 q67 q68 q69
    intro p e s' m args below meth c H locs ls hX1 hKK hA1 hS1 hP1 hD1 hl1
    obtain ⟨e1, e2⟩ := hKK
    subst e1
    subst e2
    exact st_loop l hL hX1 (fun ad => st_x l hflags hts hs _ rfl) hZ hT hU hN hX hbl hS1 hP1 hD1 hl1)
  exact key p e s m #[.ref b] below meth c s.heap [] ls hX0 ⟨rfl, rfl⟩ (fun _ h => h) va_S.rf hP hD hl
set_option maxHeartbeats 4000000 in
theorem lw_walk (l : Launch) (hflags : l.flags = flags0) (b : Addr) (xs : List Int32) : MetFree l x (headSpec (Jvm.Cond.code x code maxLocals ret :: tables_1) room_1) (lw_P b xs) (fun _ _ _ _ _ => True) lw_Q := by
  refine MetFree.of_bodyS (code := code) (maxLocals := maxLocals) (ret := ret) (by decide) ?_ ?_
  · intro args s m h hn
    obtain ⟨meth, c, h1, h2, h3, h4, h5, h6, -, -⟩ := Cond.code_spec hn (atoms_spec (ws := Jvm.Cond.code x code maxLocals ret :: tables_1) h _ List.mem_cons_self)
    exact ⟨meth, c, h1, h2, h3, h4, h5, h6⟩
  · intro p e s m args below meth c s₁ B hml0 hP _
    obtain ⟨rfl, hx, hbd, hgv⟩ := hP
    obtain ⟨scr, harrAt, hlist, hof, hsmall⟩ := hx
    obtain ⟨hcb, hkn, -, -⟩ := State.arrayAt?_spec harrAt
    have hown : s.vm.findClass R_law = some m.cls := findClass_of_methodNamed B.named
    have hts0 : ∀ c ∈ (Jvm.Cond.code x code maxLocals ret :: tables_1), c.before #[Value.ref b] s = true := atoms_spec (ws := Jvm.Cond.code x code maxLocals ret :: tables_1) B.pre
    have hts : ∀ w ∈ lw_tbl, w.before #[Value.ref b] s = true := k2_hts_sels lw_privs (fun w hw => hts0 w (List.mem_cons_of_mem _ hw)) lw_privs_ok
    have hml : c.maxLocals = 8 := B.maxLocals_eq (hts0 _ List.mem_cons_self)
    have X₀ : Stand p l e room_1 s m #[Value.ref b] below meth c s₁ [] 0 0 := Stand.of_body B
    have hh0 : s₁.heap = s.heap := by rw [B.state]; rfl
    have hsz : scr.slots.size = xs.length := by rw [← Array.length_toList, hlist, List.length_map]
    have hval : ∀ j : Nat, j < xs.length → scr.slots[j]? = some (.int (xs.getD j 0)) := fun j hj => by
      rw [← Array.getElem?_toList, hlist]
      simp [hj]
    have hbl : b < s.heap.size := (Array.getElem?_eq_some_iff.mp hcb).1
    have hX : va_X b xs.length (fun j => xs.getD j 0) s s.heap := ⟨scr, hcb, hof, hkn, hsz, hval⟩
    have K : W p l e room_1 s m #[Value.ref b] below meth c s₁.heap [] 0 0 (lw_Z below #[Value.ref b] s) (entryFrame m ([Value.ref b] : List Value).toArray 8) := by
      rw [hh0]
      exact whole_start l hflags hbd ⟨B.exec, B.bytes, B.returns, hml, hown, hts, hX, hbl, B.notSynchronized, hgv⟩
    obtain ⟨t, a1, o, b1, b2, b3⟩ := K s₁ rfl X₀
    exact ⟨t, o, a1, b1, b2, b3⟩
theorem lw_pre_spec {args : Array Value} {s : State} (h : (Jvm.Cond.and given_1 narrow_1).before args s = true) (hr : rest_1_c.before args s = true) : ∃ (b : Addr) (xs : List Int32), lw_P b xs args s := by
  have hs := flat_of_before _ h
  have hq := flat_of_before _ hr
  have hc : (Cond.count 1).before args s = true := hs _ (by decide +kernel)
  have harr : (Cond.arrayOf (.arg 0) .int).before args s = true := hs _ (by decide +kernel)
  have hle : (Cond.le (.length (.arg 0)) (.int 3072)).before args s = true := hs _ (by decide +kernel)
  have hlen : (Cond.isInt (.length (.arg 0))).before args s = true := hq _ (by decide +kernel)
  have hall : (Cond.all (.arg 0) (.isInt (.elem (.arg 0) (.index 0)))).before args s = true := hq _ (by decide +kernel)
  obtain ⟨b, xs, hb, hx⟩ := State.ints_of_pre rfl harr hlen hall
  have hsm : xs.length < 2 ^ 31 := hx.choose_spec.2.2.2
  have hev : (Term.length (.arg 0)).eval args s none [] s = some (.int xs.length.toInt32) := hx.length_eval hb
  have hv := Cond.le_ints hev (show (Term.int 3072).eval args s none [] s = some (.int 3072) from rfl)
  have hd : xs.length.toInt32 ≤ 3072 := by
    simpa [Cond.before, Cond.holds, hv] using hle
  have hN : xs.length ≤ 3072 := (Int32.ofNat_le_ofNat hsm (by decide)).mp (show Int32.ofNat xs.length ≤ Int32.ofNat 3072 from hd)
  exact ⟨b, xs, Cond.one_arg hc (show args[0]? = some (.ref b) from hb), hx, hN, h⟩
theorem lw_comes (l : Launch) (hflags : l.flags = flags0) : Comes l x (Jvm.Cond.code x code maxLocals ret :: tables_1) room_1 (fun tb e args s => Calls_1 tb e args s ∧ rest_1 tb e args s ∧ Pre_1 tb e args s)
    (fun _ _ args s o t => lw_Q args s o t) := by
  intro p e ha hc hk s m args below hf hfit hheap happ hpre
  obtain ⟨b, xs, hP⟩ := lw_pre_spec hpre.2.2 hpre.2.1
  obtain ⟨k, o, h1, h2, h3, hQ⟩ := lw_walk l hflags b xs p e ha hc hk s m args below hf ((Spec.applies_iff_loose hf).mp happ).1 hP trivial
  exact ⟨k, o, h1, h2, h3, hQ⟩
theorem lw_frame {s t : State} {o : Outcome} {args : Array Value} (h : Framed s o t [] 601024 7293034) :
    Framed s o t (fieldLocs frame_1_writes args s ++ arrayLocs frame_1_arrays args s ++ staticLocs frame_1_statics s) 601024 7293034 := h
theorem lw_limb (L : Cond) (hL : ∀ (args : Array Value) (s t : State), L.after args s (.returned (some (.int 1))) t = true) :
    ArmFor flags0 classFile x code maxLocals ret World_1 tables_1 room_1 Calls_1 rest_1 Pre_1
      (fun tb e a s o t => postC L tb e a s o t ∧ Framed s o t (fieldLocs frame_1_writes a s ++ arrayLocs frame_1_arrays a s ++ staticLocs frame_1_statics s) 601024 7293034) := by
  intro l hflags _ _ p e ha hc hk s m args below hf hfit hheap happ hpre
  obtain ⟨k, o, h1, h2, h3, rfl, hF⟩ := lw_comes l hflags p e ha hc hk s m args below hf hfit hheap happ hpre
  exact ⟨k, _, h1, h2, h3, hL args s _, lw_frame hF⟩
theorem i_vc : Claimed_1_1 ∧ Claimed_1_2 := ⟨lw_limb limb_1_1 (fun args s t => by simp [limb_1_1, Cond.after, Cond.holds, Cond.value]), lw_limb limb_1_2 (fun args s t => Cond.after_iff.mpr (by
  first | (rw [show limb_1_2 = Cond.eq .result (.int 1) from rfl, Cond.eq_ints (x := 1) (y := 1) rfl rfl]; simp; done) | (simp [limb_1_2, Cond.value, Term.eval]; done)))⟩
