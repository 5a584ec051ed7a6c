/-! ===== the first heap; the start ===== -/
def jx (k i : Nat) : Nat := match k with
  | 0 => 0
  | 21 => 1
  | 4 => 2 + i
  | 1 => 10
  | 2 => (match i with
    | 0 => 11
    | 1 => 22
    | _ => 29)
  | 17 => 18
  | 18 => 19
  | 19 => 20
  | 20 => 21
  | 22 => 36
  | 3 => 37 + 2 * i
  | 16 => 38 + 2 * i
  | 5 => 53
  | k => if k < 16 then (k - 10) + (match i with
    | 0 => 12
    | 1 => 23
    | _ => 30) else 24 + k
def adr (w : va_W) (b bb k i : Nat) : Nat := if k = 45 then b else if k = 26 then bb else (w.map (fun q => q.1)).getD (jx k i) 0
theorem jx_ok : ∀ x ∈ zdom, jx x.1 x.2 < 69 ∧ x.1 ≠ 45 ∧ x.1 ≠ 26 := by decide +kernel
theorem jx_inj : ∀ x ∈ zdom, ∀ y ∈ zdom, jx x.1 x.2 = jx y.1 y.2 → x = y := by decide +kernel
theorem adr_get {w : va_W} {b bb : Nat} (hl : w.length = 69) {x : Nat × Nat} (hx : x ∈ zdom) : ∃ q, w[jx x.1 x.2]? = some q ∧ adr w b bb x.1 x.2 = q.1 := by
  obtain ⟨h1, h2, h3⟩ := jx_ok x hx
  have hi : jx x.1 x.2 < w.length := by rw [hl]; exact h1
  refine ⟨w[jx x.1 x.2], List.getElem?_eq_getElem hi, ?_⟩
  unfold adr
  rw [if_neg h2, if_neg h3, List.getD_eq_getElem?_getD, List.getElem?_map, List.getElem?_eq_getElem hi]
  rfl
theorem adr_inj {A : Nat → Prop} {w : va_W} {b bb : Nat} (hD : va_D A w) (hl : w.length = 69) : ∀ x ∈ zdom, ∀ y ∈ zdom, adr w b bb x.1 x.2 = adr w b bb y.1 y.2 → x = y := by
  intro x hx y hy e
  obtain ⟨p, hp, ep⟩ := adr_get (b := b) (bb := bb) hl hx
  obtain ⟨q, hq, eq⟩ := adr_get (b := b) (bb := bb) hl hy
  exact jx_inj x hx y hy (hD.1 _ _ p q hp hq (by rw [← ep, ← eq]; exact e))
theorem adr_A {A : Nat → Prop} {w : va_W} {b bb : Nat} (hD : va_D A w) (hl : w.length = 69) {x : Nat × Nat} (hx : x ∈ zdom) : A (adr w b bb x.1 x.2) := by
  obtain ⟨p, hp, ep⟩ := adr_get (b := b) (bb := bb) hl hx
  rw [ep]
  exact hD.2 _ p hp
theorem va_at_q {D : va_G} {cl : List vw_C} {a n : Nat} {c : ClassId} {f g : Nat → Option Nat} {H : Heap} (h : va_at D cl (a, .inl (c, n, .inr (.inr (.inr (.inr f))))) H) (e : ∀ j, j < n → f j = g j) : va_at D cl (a, .inl (c, n, .inr (.inr (.inr (.inr g))))) H := by
  have h1 : H[a]? = some (vp_cell c (n, .inr (.inr (.inr (.inr f))))) := h
  show H[a]? = some (vp_cell c (n, .inr (.inr (.inr (.inr g)))))
  rw [h1, vp_cell_q, vp_cell_q]
  unfold arrV
  have e2 : (fun j : Fin n => va_rf (f j.val)) = fun j : Fin n => va_rf (g j.val) := funext fun j => by rw [e j.val j.isLt]
  rw [e2]
def h00 : ZH := (fun k => if k = 1 then (fun _ j => if j = 5 then -1 else 0) else (fun _ _ => 0), fun _ _ _ => 0)
theorem h00_0 (k i j : Nat) (hk : k ≠ 1) : h00.1 k i j = 0 := by
  unfold h00
  show (if k = 1 then (fun (_ j : Nat) => if j = 5 then (-1 : Int32) else 0) else (fun _ _ => 0)) i j = 0
  rw [if_neg hk]
theorem zmk_none (f : Nat → Bool) (hf : ∀ p, f p = false) : ∀ n, zmk f n = 0 := by
  intro n
  induction n with
  | zero => rfl
  | succ n ih => show zmk f n ||| (if f n then 2 ^ n else 0) = 0; rw [ih, hf n]; simp
theorem JY_first : JY 0 h00 := by
  refine ⟨0, cfgC h00 0 0, cfgH h00 0, 0, Nat.le_refl _, ?_⟩
  have z : ∀ k i j, k ≠ 1 → h00.1 k i j = nI 0 := h00_0
  refine ⟨⟨by decide, by decide, by decide, z _ _ _ (by decide), z _ _ _ (by decide), z _ _ _ (by decide), z _ _ _ (by decide), z _ _ _ (by decide), fun p _ hb => ?_, ?_⟩, ⟨by decide, by decide, by decide, z _ _ _ (by decide), z _ _ _ (by decide), z _ _ _ (by decide), rfl, by decide, z _ _ _ (by decide), Or.inl rfl, fun q => ?_⟩, ⟨by decide, by decide, z _ _ _ (by decide), z _ _ _ (by decide), rfl⟩, Or.inl ⟨z _ _ _ (by decide), z _ _ _ (by decide)⟩, fun d _ => ⟨0, by decide, z _ _ _ (by decide), Or.inl ⟨z _ _ _ (by decide), z _ _ _ (by decide)⟩⟩, zfx.rf _ _⟩
  · simp at hb
  · exact zmk_none _ (fun p => by simp) 12
  · exact absurd (show (-1 : Int32) = nI 0 from q) (by decide)
def lwW (aC : Nat → ClassId) (q1 q2 q3 q4 q5 q6 q7 q8 q9 q10 q11 q12 q13 q14 q15 q16 q17 q18 q19 q20 q21 q22 q23 q24 q25 q26 q27 q28 q29 q30 q31 q32 q33 q34 q35 q36 q37 q38 q39 q40 q41 q42 q43 q44 q45 q46 q47 q48 q49 q50 q51 q52 q53 q54 q55 q56 q57 q58 q59 q60 q61 q62 q63 q64 q65 q66 q67 q68 q69 : Nat) : va_W := [(q1, .inr (11, [.ref q2, .ref q11, .ref q12, .ref q23, .ref q30, .ref q37, .int 0])), (q2, .inl (aC 3, 8, .inr (.inr (.inr (.inr (va_up (va_up (va_up (va_up (va_up (va_up (va_up (va_up (fun _ => none) (0 : Int32).toNatClampNeg (some q3)) (1 : Int32).toNatClampNeg (some q4)) (2 : Int32).toNatClampNeg (some q5)) (3 : Int32).toNatClampNeg (some q6)) (4 : Int32).toNatClampNeg (some q7)) (5 : Int32).toNatClampNeg (some q8)) (6 : Int32).toNatClampNeg (some q9)) (7 : Int32).toNatClampNeg (some q10))))))), (q3, .inr (10, [])), (q4, .inr (2, [])), (q5, .inr (0, [])), (q6, .inr (7, [])), (q7, .inr (5, [])), (q8, .inr (9, [])), (q9, .inr (1, [])), (q10, .inr (6, [])), (q11, .inr (3, [.ref q12, .ref q19, .ref q20, .ref q21, .ref q22, .int (-1)])), (q12, .inr (4, [.ref q13, .ref q14, .ref q15, .ref q16, .ref q17, .ref q18, .int 0, .int 0, .int 0, .int 0])), (q13, .inl (aC 0, (12, .inl (fun _ => 0)))), (q14, .inl (aC 0, (12, .inl (fun _ => 0)))), (q15, .inl (aC 0, (12, .inl (fun _ => 0)))), (q16, .inl (aC 0, (12, .inl (fun _ => 0)))), (q17, .inl (aC 0, (12, .inl (fun _ => 0)))), (q18, .inl (aC 0, (12, .inl (fun _ => 0)))), (q19, .inl (aC 0, (4096, .inl (fun _ => 0)))), (q20, .inl (aC 0, (4096, .inl (fun _ => 0)))), (q21, .inl (aC 1, (12, .inr (.inl (fun _ => 0))))), (q22, .inl (aC 1, (13, .inr (.inl (fun _ => 0))))), (q23, .inr (4, [.ref q24, .ref q25, .ref q26, .ref q27, .ref q28, .ref q29, .int 0, .int 0, .int 0, .int 0])), (q24, .inl (aC 0, (12, .inl (fun _ => 0)))), (q25, .inl (aC 0, (12, .inl (fun _ => 0)))), (q26, .inl (aC 0, (12, .inl (fun _ => 0)))), (q27, .inl (aC 0, (12, .inl (fun _ => 0)))), (q28, .inl (aC 0, (12, .inl (fun _ => 0)))), (q29, .inl (aC 0, (12, .inl (fun _ => 0)))), (q30, .inr (4, [.ref q31, .ref q32, .ref q33, .ref q34, .ref q35, .ref q36, .int 0, .int 0, .int 0, .int 0])), (q31, .inl (aC 0, (12, .inl (fun _ => 0)))), (q32, .inl (aC 0, (12, .inl (fun _ => 0)))), (q33, .inl (aC 0, (12, .inl (fun _ => 0)))), (q34, .inl (aC 0, (12, .inl (fun _ => 0)))), (q35, .inl (aC 0, (12, .inl (fun _ => 0)))), (q36, .inl (aC 0, (12, .inl (fun _ => 0)))), (q37, .inl (aC 4, 8, .inr (.inr (.inr (.inr (va_up (va_up (va_up (va_up (va_up (va_up (va_up (va_up (fun _ => none) (0 : Int32).toNatClampNeg (some q38)) (1 : Int32).toNatClampNeg (some q40)) (2 : Int32).toNatClampNeg (some q42)) (3 : Int32).toNatClampNeg (some q44)) (4 : Int32).toNatClampNeg (some q46)) (5 : Int32).toNatClampNeg (some q48)) (6 : Int32).toNatClampNeg (some q50)) (7 : Int32).toNatClampNeg (some q52))))))), (q38, .inr (8, [.int 0, .int 0, .int 0, .int 0, .int 0, .ref q39])), (q39, .inl (aC 0, (100, .inl (fun _ => 0)))), (q40, .inr (8, [.int 0, .int 0, .int 0, .int 0, .int 0, .ref q41])), (q41, .inl (aC 0, (100, .inl (fun _ => 0)))), (q42, .inr (8, [.int 0, .int 0, .int 0, .int 0, .int 0, .ref q43])), (q43, .inl (aC 0, (100, .inl (fun _ => 0)))), (q44, .inr (8, [.int 0, .int 0, .int 0, .int 0, .int 0, .ref q45])), (q45, .inl (aC 0, (100, .inl (fun _ => 0)))), (q46, .inr (8, [.int 0, .int 0, .int 0, .int 0, .int 0, .ref q47])), (q47, .inl (aC 0, (100, .inl (fun _ => 0)))), (q48, .inr (8, [.int 0, .int 0, .int 0, .int 0, .int 0, .ref q49])), (q49, .inl (aC 0, (100, .inl (fun _ => 0)))), (q50, .inr (8, [.int 0, .int 0, .int 0, .int 0, .int 0, .ref q51])), (q51, .inl (aC 0, (100, .inl (fun _ => 0)))), (q52, .inr (8, [.int 0, .int 0, .int 0, .int 0, .int 0, .ref q53])), (q53, .inl (aC 0, (100, .inl (fun _ => 0)))), (q54, .inr (12, [.ref q55, .ref q56, .ref q57, .int 0, .ref q58, .int 0, .int 0, .int 0, .int 0, .ref q59, .ref q60, .int 0, .int 0, .int 0, .int 0, .ref q61, .ref q62, .ref q63, .ref q64, .ref q65, .ref q66, .ref q67, .ref q68, .int 0])), (q55, .inl (aC 0, (26, .inl (fun _ => 0)))), (q56, .inl (aC 0, (26, .inl (fun _ => 0)))), (q57, .inl (aC 0, (26, .inl (fun _ => 0)))), (q58, .inl (aC 0, (12, .inl (fun _ => 0)))), (q59, .inl (aC 0, (3, .inl (fun _ => 0)))), (q60, .inl (aC 0, (4096, .inl (fun _ => 0)))), (q61, .inl (aC 2, (4096, .inl (fun _ => 0)))), (q62, .inl (aC 2, (4096, .inl (fun _ => 0)))), (q63, .inl (aC 0, (8, .inl (fun _ => 0)))), (q64, .inl (aC 0, (8, .inl (fun _ => 0)))), (q65, .inl (aC 0, (8, .inl (fun _ => 0)))), (q66, .inl (aC 0, (8, .inl (fun _ => 0)))), (q67, .inl (aC 0, (8, .inl (fun _ => 0)))), (q68, .inl (aC 0, (800, .inl (fun _ => 0)))), (q69, .inl (aC 1, (1, .inr (.inl (fun _ => 0)))))]
theorem lwW_len (aC : Nat → ClassId) (q1 q2 q3 q4 q5 q6 q7 q8 q9 q10 q11 q12 q13 q14 q15 q16 q17 q18 q19 q20 q21 q22 q23 q24 q25 q26 q27 q28 q29 q30 q31 q32 q33 q34 q35 q36 q37 q38 q39 q40 q41 q42 q43 q44 q45 q46 q47 q48 q49 q50 q51 q52 q53 q54 q55 q56 q57 q58 q59 q60 q61 q62 q63 q64 q65 q66 q67 q68 q69 : Nat) : (lwW aC q1 q2 q3 q4 q5 q6 q7 q8 q9 q10 q11 q12 q13 q14 q15 q16 q17 q18 q19 q20 q21 q22 q23 q24 q25 q26 q27 q28 q29 q30 q31 q32 q33 q34 q35 q36 q37 q38 q39 q40 q41 q42 q43 q44 q45 q46 q47 q48 q49 q50 q51 q52 q53 q54 q55 q56 q57 q58 q59 q60 q61 q62 q63 q64 q65 q66 q67 q68 q69).length = 69 := rfl
def zdomL : List (Nat × Nat) := [(0, 0), (1, 0), (2, 0), (2, 1), (2, 2), (3, 0), (3, 1), (3, 2), (3, 3), (3, 4), (3, 5), (3, 6), (3, 7), (4, 0), (4, 1), (4, 2), (4, 3), (4, 4), (4, 5), (4, 6), (4, 7), (5, 0), (10, 0), (10, 1), (10, 2), (11, 0), (11, 1), (11, 2), (12, 0), (12, 1), (12, 2), (13, 0), (13, 1), (13, 2), (14, 0), (14, 1), (14, 2), (15, 0), (15, 1), (15, 2), (16, 0), (16, 1), (16, 2), (16, 3), (16, 4), (16, 5), (16, 6), (16, 7), (17, 0), (18, 0), (19, 0), (20, 0), (21, 0), (22, 0), (30, 0), (31, 0), (32, 0), (33, 0), (34, 0), (35, 0), (36, 0), (37, 0), (38, 0), (39, 0), (40, 0), (41, 0), (42, 0), (43, 0), (44, 0)]
theorem zdom_L : zdom = zdomL := by decide +kernel
set_option maxRecDepth 20000 in
set_option maxHeartbeats 4000000 in
theorem st_W {l : Launch} {D : va_G} {aC : Nat → ClassId} {H : Heap} (b bb q1 q2 q3 q4 q5 q6 q7 q8 q9 q10 q11 q12 q13 q14 q15 q16 q17 q18 q19 q20 q21 q22 q23 q24 q25 q26 q27 q28 q29 q30 q31 q32 q33 q34 q35 q36 q37 q38 q39 q40 q41 q42 q43 q44 q45 q46 q47 q48 q49 q50 q51 q52 q53 q54 q55 q56 q57 q58 q59 q60 q61 q62 q63 q64 q65 q66 q67 q68 q69 : Nat) (hP : va_P D vwCl (lwW aC q1 q2 q3 q4 q5 q6 q7 q8 q9 q10 q11 q12 q13 q14 q15 q16 q17 q18 q19 q20 q21 q22 q23 q24 q25 q26 q27 q28 q29 q30 q31 q32 q33 q34 q35 q36 q37 q38 q39 q40 q41 q42 q43 q44 q45 q46 q47 q48 q49 q50 q51 q52 q53 q54 q55 q56 q57 q58 q59 q60 q61 q62 q63 q64 q65 q66 q67 q68 q69) H) : zW ((l, D, aC, adr (lwW aC q1 q2 q3 q4 q5 q6 q7 q8 q9 q10 q11 q12 q13 q14 q15 q16 q17 q18 q19 q20 q21 q22 q23 q24 q25 q26 q27 q28 q29 q30 q31 q32 q33 q34 q35 q36 q37 q38 q39 q40 q41 q42 q43 q44 q45 q46 q47 q48 q49 q50 q51 q52 q53 q54 q55 q56 q57 q58 q59 q60 q61 q62 q63 q64 q65 q66 q67 q68 q69) b bb) : ZG) h00 H := by
  have key : ∀ x ∈ zdomL, va_at D vwCl (adr (lwW aC q1 q2 q3 q4 q5 q6 q7 q8 q9 q10 q11 q12 q13 q14 q15 q16 q17 q18 q19 q20 q21 q22 q23 q24 q25 q26 q27 q28 q29 q30 q31 q32 q33 q34 q35 q36 q37 q38 q39 q40 q41 q42 q43 q44 q45 q46 q47 q48 q49 q50 q51 q52 q53 q54 q55 q56 q57 q58 q59 q60 q61 q62 q63 q64 q65 q66 q67 q68 q69) b bb x.1 x.2, zE ((l, D, aC, adr (lwW aC q1 q2 q3 q4 q5 q6 q7 q8 q9 q10 q11 q12 q13 q14 q15 q16 q17 q18 q19 q20 q21 q22 q23 q24 q25 q26 q27 q28 q29 q30 q31 q32 q33 q34 q35 q36 q37 q38 q39 q40 q41 q42 q43 q44 q45 q46 q47 q48 q49 q50 q51 q52 q53 q54 q55 q56 q57 q58 q59 q60 q61 q62 q63 q64 q65 q66 q67 q68 q69) b bb) : ZG) h00 x.1 x.2) H := by
    unfold zdomL
    refine List.forall_mem_cons.mpr ⟨hP 0 _ rfl, ?_⟩
    refine List.forall_mem_cons.mpr ⟨hP 10 _ rfl, ?_⟩
    refine List.forall_mem_cons.mpr ⟨hP 11 _ rfl, ?_⟩
    refine List.forall_mem_cons.mpr ⟨hP 22 _ rfl, ?_⟩
    refine List.forall_mem_cons.mpr ⟨hP 29 _ rfl, ?_⟩
    refine List.forall_mem_cons.mpr ⟨hP 37 _ rfl, ?_⟩
    refine List.forall_mem_cons.mpr ⟨hP 39 _ rfl, ?_⟩
    refine List.forall_mem_cons.mpr ⟨hP 41 _ rfl, ?_⟩
    refine List.forall_mem_cons.mpr ⟨hP 43 _ rfl, ?_⟩
    refine List.forall_mem_cons.mpr ⟨hP 45 _ rfl, ?_⟩
    refine List.forall_mem_cons.mpr ⟨hP 47 _ rfl, ?_⟩
    refine List.forall_mem_cons.mpr ⟨hP 49 _ rfl, ?_⟩
    refine List.forall_mem_cons.mpr ⟨hP 51 _ rfl, ?_⟩
    refine List.forall_mem_cons.mpr ⟨hP 2 _ rfl, ?_⟩
    refine List.forall_mem_cons.mpr ⟨hP 3 _ rfl, ?_⟩
    refine List.forall_mem_cons.mpr ⟨hP 4 _ rfl, ?_⟩
    refine List.forall_mem_cons.mpr ⟨hP 5 _ rfl, ?_⟩
    refine List.forall_mem_cons.mpr ⟨hP 6 _ rfl, ?_⟩
    refine List.forall_mem_cons.mpr ⟨hP 7 _ rfl, ?_⟩
    refine List.forall_mem_cons.mpr ⟨hP 8 _ rfl, ?_⟩
    refine List.forall_mem_cons.mpr ⟨hP 9 _ rfl, ?_⟩
    refine List.forall_mem_cons.mpr ⟨hP 53 _ rfl, ?_⟩
    refine List.forall_mem_cons.mpr ⟨hP 12 _ rfl, ?_⟩
    refine List.forall_mem_cons.mpr ⟨hP 23 _ rfl, ?_⟩
    refine List.forall_mem_cons.mpr ⟨hP 30 _ rfl, ?_⟩
    refine List.forall_mem_cons.mpr ⟨hP 13 _ rfl, ?_⟩
    refine List.forall_mem_cons.mpr ⟨hP 24 _ rfl, ?_⟩
    refine List.forall_mem_cons.mpr ⟨hP 31 _ rfl, ?_⟩
    refine List.forall_mem_cons.mpr ⟨hP 14 _ rfl, ?_⟩
    refine List.forall_mem_cons.mpr ⟨hP 25 _ rfl, ?_⟩
    refine List.forall_mem_cons.mpr ⟨hP 32 _ rfl, ?_⟩
    refine List.forall_mem_cons.mpr ⟨hP 15 _ rfl, ?_⟩
    refine List.forall_mem_cons.mpr ⟨hP 26 _ rfl, ?_⟩
    refine List.forall_mem_cons.mpr ⟨hP 33 _ rfl, ?_⟩
    refine List.forall_mem_cons.mpr ⟨hP 16 _ rfl, ?_⟩
    refine List.forall_mem_cons.mpr ⟨hP 27 _ rfl, ?_⟩
    refine List.forall_mem_cons.mpr ⟨hP 34 _ rfl, ?_⟩
    refine List.forall_mem_cons.mpr ⟨hP 17 _ rfl, ?_⟩
    refine List.forall_mem_cons.mpr ⟨hP 28 _ rfl, ?_⟩
    refine List.forall_mem_cons.mpr ⟨hP 35 _ rfl, ?_⟩
    refine List.forall_mem_cons.mpr ⟨hP 38 _ rfl, ?_⟩
    refine List.forall_mem_cons.mpr ⟨hP 40 _ rfl, ?_⟩
    refine List.forall_mem_cons.mpr ⟨hP 42 _ rfl, ?_⟩
    refine List.forall_mem_cons.mpr ⟨hP 44 _ rfl, ?_⟩
    refine List.forall_mem_cons.mpr ⟨hP 46 _ rfl, ?_⟩
    refine List.forall_mem_cons.mpr ⟨hP 48 _ rfl, ?_⟩
    refine List.forall_mem_cons.mpr ⟨hP 50 _ rfl, ?_⟩
    refine List.forall_mem_cons.mpr ⟨hP 52 _ rfl, ?_⟩
    refine List.forall_mem_cons.mpr ⟨hP 18 _ rfl, ?_⟩
    refine List.forall_mem_cons.mpr ⟨hP 19 _ rfl, ?_⟩
    refine List.forall_mem_cons.mpr ⟨hP 20 _ rfl, ?_⟩
    refine List.forall_mem_cons.mpr ⟨hP 21 _ rfl, ?_⟩
    refine List.forall_mem_cons.mpr ⟨va_at_q (hP 1 _ rfl) (fun j hj => by rcases (show j = 0 ∨ j = 1 ∨ j = 2 ∨ j = 3 ∨ j = 4 ∨ j = 5 ∨ j = 6 ∨ j = 7 by omega) with rfl | rfl | rfl | rfl | rfl | rfl | rfl | rfl <;> rfl), ?_⟩
    refine List.forall_mem_cons.mpr ⟨va_at_q (hP 36 _ rfl) (fun j hj => by rcases (show j = 0 ∨ j = 1 ∨ j = 2 ∨ j = 3 ∨ j = 4 ∨ j = 5 ∨ j = 6 ∨ j = 7 by omega) with rfl | rfl | rfl | rfl | rfl | rfl | rfl | rfl <;> rfl), ?_⟩
    refine List.forall_mem_cons.mpr ⟨hP 54 _ rfl, ?_⟩
    refine List.forall_mem_cons.mpr ⟨hP 55 _ rfl, ?_⟩
    refine List.forall_mem_cons.mpr ⟨hP 56 _ rfl, ?_⟩
    refine List.forall_mem_cons.mpr ⟨hP 57 _ rfl, ?_⟩
    refine List.forall_mem_cons.mpr ⟨hP 58 _ rfl, ?_⟩
    refine List.forall_mem_cons.mpr ⟨hP 59 _ rfl, ?_⟩
    refine List.forall_mem_cons.mpr ⟨hP 60 _ rfl, ?_⟩
    refine List.forall_mem_cons.mpr ⟨hP 61 _ rfl, ?_⟩
    refine List.forall_mem_cons.mpr ⟨hP 62 _ rfl, ?_⟩
    refine List.forall_mem_cons.mpr ⟨hP 63 _ rfl, ?_⟩
    refine List.forall_mem_cons.mpr ⟨hP 64 _ rfl, ?_⟩
    refine List.forall_mem_cons.mpr ⟨hP 65 _ rfl, ?_⟩
    refine List.forall_mem_cons.mpr ⟨hP 66 _ rfl, ?_⟩
    refine List.forall_mem_cons.mpr ⟨hP 67 _ rfl, ?_⟩
    refine List.forall_mem_cons.mpr ⟨hP 68 _ rfl, ?_⟩
    intro x hx
    cases hx
  intro k q hq
  have h1 : (zdom.map (fun x => (adr (lwW aC q1 q2 q3 q4 q5 q6 q7 q8 q9 q10 q11 q12 q13 q14 q15 q16 q17 q18 q19 q20 q21 q22 q23 q24 q25 q26 q27 q28 q29 q30 q31 q32 q33 q34 q35 q36 q37 q38 q39 q40 q41 q42 q43 q44 q45 q46 q47 q48 q49 q50 q51 q52 q53 q54 q55 q56 q57 q58 q59 q60 q61 q62 q63 q64 q65 q66 q67 q68 q69) b bb x.1 x.2, zE ((l, D, aC, adr (lwW aC q1 q2 q3 q4 q5 q6 q7 q8 q9 q10 q11 q12 q13 q14 q15 q16 q17 q18 q19 q20 q21 q22 q23 q24 q25 q26 q27 q28 q29 q30 q31 q32 q33 q34 q35 q36 q37 q38 q39 q40 q41 q42 q43 q44 q45 q46 q47 q48 q49 q50 q51 q52 q53 q54 q55 q56 q57 q58 q59 q60 q61 q62 q63 q64 q65 q66 q67 q68 q69) b bb) : ZG) h00 x.1 x.2)))[k]? = some q := hq
  rw [List.getElem?_map] at h1
  obtain ⟨x, hx, rfl⟩ := Option.map_eq_some_iff.mp h1
  exact key x (by rw [← zdom_L]; exact List.mem_of_getElem? hx)
theorem st_cl {s : State} {args : Array Value} (hz : ∀ w ∈ zall, w.before args s = true) : ∃ D : va_G, ∀ (c : Nat) (q : vw_C), vwCl[c]? = some q → u_Kn s q.1 q.2.1 q.2.2 (D.1 c) (D.2 c) := by
  have h : ∀ c : Nat, ∃ d : ClassId × (Nat → Nat), ∀ q : vw_C, vwCl[c]? = some q → u_Kn s q.1 q.2.1 q.2.2 d.1 d.2 := by
    intro c
    rcases Nat.lt_or_ge c 13 with hc | hc
    · rcases (show c = 0 ∨ c = 1 ∨ c = 2 ∨ c = 3 ∨ c = 4 ∨ c = 5 ∨ c = 6 ∨ c = 7 ∨ c = 8 ∨ c = 9 ∨ c = 10 ∨ c = 11 ∨ c = 12 by omega) with rfl | rfl | rfl | rfl | rfl | rfl | rfl | rfl | rfl | rfl | rfl | rfl | rfl
      · obtain ⟨cC, iS, hk⟩ := u_known (C := RX0) (T := TX0) (N := 0) (n := 0) hz uw_RX0 (hz _ (wmk 49 (by decide +kernel) rfl))
        exact ⟨(cC, iS), fun q hq => by
          have e : (RX0, TX0, 0) = q := Option.some.inj hq
          subst e
          exact hk⟩
      · obtain ⟨cC, iS, hk⟩ := u_known (C := RX1) (T := TX1) (N := 0) (n := 0) hz uw_RX1 (hz _ (wmk 77 (by decide +kernel) rfl))
        exact ⟨(cC, iS), fun q hq => by
          have e : (RX1, TX1, 0) = q := Option.some.inj hq
          subst e
          exact hk⟩
      · obtain ⟨cC, iS, hk⟩ := u_known (C := RX2) (T := TX2) (N := 0) (n := 0) hz uw_RX2 (hz _ (wmk 42 (by decide +kernel) rfl))
        exact ⟨(cC, iS), fun q hq => by
          have e : (RX2, TX2, 0) = q := Option.some.inj hq
          subst e
          exact hk⟩
      · obtain ⟨cC, iS, hk⟩ := u_known (C := RX3) (T := TX3) (N := 6) (n := 6) hz uw_RX3 (hz _ (wmk 91 (by decide +kernel) rfl))
        exact ⟨(cC, iS), fun q hq => by
          have e : (RX3, TX3, 6) = q := Option.some.inj hq
          subst e
          exact hk⟩
      · obtain ⟨cC, iS, hk⟩ := u_known (C := RX4) (T := TX4) (N := 10) (n := 10) hz uw_RX4 (hz _ (wmk 97 (by decide +kernel) rfl))
        exact ⟨(cC, iS), fun q hq => by
          have e : (RX4, TX4, 10) = q := Option.some.inj hq
          subst e
          exact hk⟩
      · obtain ⟨cC, iS, hk⟩ := u_known (C := RX5) (T := TX5) (N := 0) (n := 0) hz uw_RX5 (hz _ (wmk 63 (by decide +kernel) rfl))
        exact ⟨(cC, iS), fun q hq => by
          have e : (RX5, TX5, 0) = q := Option.some.inj hq
          subst e
          exact hk⟩
      · obtain ⟨cC, iS, hk⟩ := u_known (C := RX6) (T := TX6) (N := 0) (n := 0) hz uw_RX6 (hz _ (wmk 84 (by decide +kernel) rfl))
        exact ⟨(cC, iS), fun q hq => by
          have e : (RX6, TX6, 0) = q := Option.some.inj hq
          subst e
          exact hk⟩
      · obtain ⟨cC, iS, hk⟩ := u_known (C := RX7) (T := TX7) (N := 0) (n := 0) hz uw_RX7 (hz _ (wmk 56 (by decide +kernel) rfl))
        exact ⟨(cC, iS), fun q hq => by
          have e : (RX7, TX7, 0) = q := Option.some.inj hq
          subst e
          exact hk⟩
      · obtain ⟨cC, iS, hk⟩ := u_known (C := RX8) (T := TX8) (N := 6) (n := 6) hz uw_RX8 (hz _ (wmk 169 (by decide +kernel) rfl))
        exact ⟨(cC, iS), fun q hq => by
          have e : (RX8, TX8, 6) = q := Option.some.inj hq
          subst e
          exact hk⟩
      · obtain ⟨cC, iS, hk⟩ := u_known (C := RX9) (T := TX9) (N := 0) (n := 0) hz uw_RX9 (hz _ (wmk 70 (by decide +kernel) rfl))
        exact ⟨(cC, iS), fun q hq => by
          have e : (RX9, TX9, 0) = q := Option.some.inj hq
          subst e
          exact hk⟩
      · obtain ⟨cC, iS, hk⟩ := u_known (C := RX10) (T := TX10) (N := 0) (n := 0) hz uw_RX10 (hz _ (wmk 35 (by decide +kernel) rfl))
        exact ⟨(cC, iS), fun q hq => by
          have e : (RX10, TX10, 0) = q := Option.some.inj hq
          subst e
          exact hk⟩
      · obtain ⟨cC, iS, hk⟩ := u_known (C := RX11) (T := TX11) (N := 7) (n := 7) hz uw_RX11 (hz _ (wmk 26 (by decide +kernel) rfl))
        exact ⟨(cC, iS), fun q hq => by
          have e : (RX11, TX11, 7) = q := Option.some.inj hq
          subst e
          exact hk⟩
      · obtain ⟨cC, iS, hk⟩ := u_known (C := RX12) (T := TX12) (N := 24) (n := 24) hz uw_RX12 (hz _ (wmk 1000 (by decide +kernel) rfl))
        exact ⟨(cC, iS), fun q hq => by
          have e : (RX12, TX12, 24) = q := Option.some.inj hq
          subst e
          exact hk⟩
    · refine ⟨(0, fun _ => 0), fun q hq => ?_⟩
      have hn : vwCl[c]? = none := List.getElem?_eq_none (by show 13 ≤ c; exact hc)
      rw [hn] at hq
      cases hq
  exact ⟨(fun c => (Classical.choose (h c)).1, fun c => (Classical.choose (h c)).2), fun c q hq => Classical.choose_spec (h c) q hq⟩
theorem st_arr {s : State} {args : Array Value} {ty : FieldType} (h : (Cond.arrayClass ty).before args s = true) : ∃ c : ClassId, ArrOfT s c ty ∧ s.vm.findClass ("[" ++ ty.toString) = some c := by
  obtain ⟨c, k, comp, h1, h2, h3⟩ := Cond.arrayClass_spec h
  exact ⟨c, fun n z => ⟨(fun k h => by cases h), k, h2, comp, h3⟩, h1⟩
theorem st_arO {s : State} {args : Array Value} {C : String} (h : (Cond.arrayOver (.object C)).before args s = true) : ∃ c : ClassId, ArrOfT s c (.object C) ∧ va_RA s c (.object C) := by
  obtain ⟨comp, c, k, h1, h2, h3, h4, h5⟩ := Cond.arrayOver_spec h
  exact ⟨c, fun n z => ⟨(fun k h => by cases h), k, h3, comp, h4⟩, k, comp, h3, h4, h1, h5⟩
theorem st_K {s : State} {args : Array Value} (hz : ∀ w ∈ zall, w.before args s = true) (hts : ∀ w ∈ lw_tbl, w.before args s = true) : ∃ (D : va_G) (aC : Nat → ClassId), ∀ (l : Launch) (ad : Nat → Nat → Nat), va_K D vwCl (zty (l, D, aC, ad)) s := by
  obtain ⟨D, hD⟩ := st_cl hz
  obtain ⟨c0, a0, b0⟩ := st_arr (hz _ (wmk 143 (by decide +kernel) rfl : Cond.arrayClass .int ∈ zall))
  obtain ⟨c1, a1, b1⟩ := st_arr (hz _ (wmk 164 (by decide +kernel) rfl : Cond.arrayClass .long ∈ zall))
  obtain ⟨c2, a2, b2⟩ := st_arr (hz _ (wmk 1078 (by decide +kernel) rfl : Cond.arrayClass .boolean ∈ zall))
  obtain ⟨c3, a3, b3⟩ := st_arO (hts _ (List.mem_append_right _ (List.mem_of_getElem? (i := 34) (by decide +kernel))) : (Cond.arrayOver (.object "CornerstoneSought$Stone")).before args s = true)
  obtain ⟨c4, a4, b4⟩ := st_arO (hts _ (List.mem_append_right _ (List.mem_of_getElem? (i := 168) (by decide +kernel))) : (Cond.arrayOver (.object "CornerstoneSought$Shelf")).before args s = true)
  refine ⟨D, fun k => match k with
    | 0 => c0
    | 1 => c1
    | 2 => c2
    | 3 => c3
    | _ => c4, fun l ad => ⟨hD, fun k q hq => ?_⟩⟩
  match k, hq with
  | 0, hq => cases hq; exact ⟨a0, b0⟩
  | 1, hq => cases hq; exact ⟨a1, b1⟩
  | 2, hq => cases hq; exact ⟨a2, b2⟩
  | 3, hq => cases hq; exact ⟨a3, b3⟩
  | 4, hq => cases hq; exact ⟨a4, b4⟩
  | k + 5, hq => simp [zty] at hq
