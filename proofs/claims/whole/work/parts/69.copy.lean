/-! ===== copy, both sides ===== -/
def cpF (f0 : Nat → Int32) (a b lo hi : Nat) : Nat → Int32 := fun x => if b + lo ≤ x ∧ x < b + hi then f0 (a + (x - b)) else f0 x
theorem cp_dn {f0 : Nat → Int32} {a b s n : Nat} (hs : s < n) (q : a ≤ b ∨ b + n ≤ a + s) : upd (cpF f0 a b (s + 1) n) (b + s) (cpF f0 a b (s + 1) n (a + s)) = cpF f0 a b s n := by
  have e : cpF f0 a b (s + 1) n (a + s) = f0 (a + s) := if_neg (by omega)
  rw [e]
  funext x
  unfold upd cpF
  by_cases z : x = b + s
  · subst z
    rw [if_pos rfl, if_pos (by omega)]
    congr 1
    omega
  · rw [if_neg z]
    by_cases y : b + (s + 1) ≤ x ∧ x < b + n
    · rw [if_pos y, if_pos (by omega)]
    · rw [if_neg y, if_neg (by omega)]
theorem cp_up {f0 : Nat → Int32} {a b k : Nat} (q : b ≤ a ∨ a + k < b) : upd (cpF f0 a b 0 k) (b + k) (cpF f0 a b 0 k (a + k)) = cpF f0 a b 0 (k + 1) := by
  have e : cpF f0 a b 0 k (a + k) = f0 (a + k) := if_neg (by omega)
  rw [e]
  funext x
  unfold upd cpF
  by_cases z : x = b + k
  · subst z
    rw [if_pos rfl, if_pos (by omega)]
    congr 1
    omega
  · rw [if_neg z]
    by_cases y : b + 0 ≤ x ∧ x < b + k
    · rw [if_pos y, if_pos (by omega)]
    · rw [if_neg y, if_neg (by omega)]
theorem cpF_0 (f0 : Nat → Int32) (a b x : Nat) : cpF f0 a b x x = f0 := funext fun y => if_neg (by omega)
theorem cp_loop {G : ZG} (d : Nat) {h1 : ZH} {dd ee i j n : Nat} (hd : dd < 8) (he : ee < 8) (hi : i + n ≤ 100) (hj : j + n ≤ 100) : ∀ (f k : Nat), f + k = n → ∀ h2 : ZH, h2 = zsR h1 43 0 (cpF (h1.1 43 0) (100 * dd + i) (100 * ee + j) (if i ≤ j then n - k else 0) (if i ≤ j then n else k)) → zT G (d + 3) mX12_copy 122 [zr 5 0, zi (nI dd), zi (nI i), zi (nI ee), zi (nI j), zi (nI n), zi (nI k), zu] [] h2 (fun r h3 => r = some (zi (nI n)) ∧ h3 = zsR h1 43 0 (cpF (h1.1 43 0) (100 * dd + i) (100 * ee + j) 0 n)) := by
  intro f
  induction f with
  | zero =>
    intro k hk h2 e2
    have ek : k = n := by omega
    subst ek
    refine wX12_copy_122 ?_
    refine br_t (nI_le (Nat.le_refl _) (by omega)) ⟨rfl, ?_⟩
    rw [e2]
    by_cases q : i ≤ j
    · rw [if_pos q, if_pos q, Nat.sub_self]
    · rw [if_neg q, if_neg q]
  | succ f ih =>
    intro k hk h2 e2
    have hkn : k < n := by omega
    refine wX12_copy_122 ?_
    refine br_f (nI_ge hkn (by omega)) ?_
    rw [nI_leI (show i < 2 ^ 31 by omega) (show j < 2 ^ 31 by omega)]
    have ixd := ix_el hd (show i < 100 by omega)
    have ixe := ix_el he (show j < 100 by omega)
    have e1 : (1 : Int32) = nI 1 := by decide
    rw [ixd.1, ixe.1, nI_1]
    refine ⟨fun q => ?_, fun q => ?_⟩
    · rw [e1, nI_sub (show 1 ≤ n by omega), nI_sub (show k ≤ n - 1 by omega), nI_add, nI_add, nI_cl (show 100 * dd + i + (n - 1 - k) ≤ 4096 by omega), nI_cl (show 100 * ee + j + (n - 1 - k) ≤ 4096 by omega)]
      refine ⟨vpn (by omega) (by decide), vpn (by omega) (by decide), fun h3 e3 => ?_⟩
      refine ih (k + 1) (by omega) h3 ?_
      rw [e3, e2, if_pos q, if_pos q, if_pos q, if_pos q, zsR_s1, zsR_row]
      congr 1
      have e4 : n - k = (n - 1 - k) + 1 := by omega
      have e5 : n - (k + 1) = n - 1 - k := by omega
      rw [e4, e5]
      exact cp_dn (by omega) (by omega)
    · rw [nI_add, nI_add, nI_cl (show 100 * dd + i + k ≤ 4096 by omega), nI_cl (show 100 * ee + j + k ≤ 4096 by omega)]
      refine ⟨vpn (by omega) (by decide), vpn (by omega) (by decide), fun h3 e3 => ?_⟩
      refine ih (k + 1) (by omega) h3 ?_
      rw [e3, e2, if_neg q, if_neg q, if_neg q, if_neg q, zsR_s1, zsR_row]
      congr 1
      exact cp_up (by omega)
/-- what both ask of a span -/
theorem span_iff {x n' : Int32} {N : Nat} (hN : N ≤ 100) : ((0 ≤ x ∧ 0 ≤ n') ∧ (x ≤ nI N ∧ n' ≤ nI N - x)) ↔ ∃ i n : Nat, x = nI i ∧ n' = nI n ∧ i + n ≤ N := by
  constructor
  · rintro ⟨⟨a, b⟩, c, d⟩
    obtain ⟨i, hi, rfl⟩ := nI_of2 (x := x) (M := nI N) (n := N) (nI_toInt (by omega)) (fun q => (fa_of_lt q).2.1 a) c
    rw [nI_sub hi] at d
    obtain ⟨n, hn, rfl⟩ := nI_of2 (x := n') (M := nI (N - i)) (n := N - i) (nI_toInt (by omega)) (fun q => (fa_of_lt q).2.1 b) d
    exact ⟨i, n, rfl, rfl, by omega⟩
  · rintro ⟨i, n, rfl, rfl, h⟩
    refine ⟨⟨nI_pos' (by omega), nI_pos' (by omega)⟩, nI_le (by omega) (by omega), ?_⟩
    rw [nI_sub (by omega)]
    exact nI_le (by omega) (by omega)
theorem span_m {x n' : Int32} {N : Nat} (hN : N ≤ 100) (a : ¬ n' < 0) (b : ¬ x < 0) : (¬ (nI N - x) < n') ↔ ∃ i n : Nat, x = nI i ∧ n' = nI n ∧ i + n ≤ N := by
  obtain ⟨n, hn, rfl⟩ := nI_of a
  obtain ⟨i, hi, rfl⟩ := nI_of b
  have e1 : (nI N).toInt = N := nI_toInt (by omega)
  have e2 : (nI n).toInt = n := nI_toInt hn
  have e3 : (nI i).toInt = i := nI_toInt hi
  have e4 : (nI N - nI i).toInt = N - i := by rw [fb_subI (by rw [e1, e3]; omega) (by rw [e1, e3]; omega), e1, e3]
  rw [fa_lt, e4, e2]
  constructor
  · intro q
    exact ⟨i, n, rfl, rfl, by omega⟩
  · rintro ⟨i', n', a', b', q⟩
    have := congrArg Int32.toInt a'
    have := congrArg Int32.toInt b'
    rw [e3, nI_toInt (by omega)] at *
    rw [e2, nI_toInt (by omega)] at *
    omega
theorem span_neg {x n' : Int32} {N : Nat} : (∃ i n : Nat, x = nI i ∧ n' = nI n ∧ i + n ≤ N) → N ≤ 100 → ¬ n' < 0 ∧ ¬ x < 0 := by
  rintro ⟨i, n, rfl, rfl, h⟩ hN
  exact ⟨nI_pos (by omega), nI_pos (by omega)⟩
theorem two_copy {G : ZG} (d n : Nat) {h : ZH} (jy : JY n h) (x1 x2 x3 x4 x5 : Int32) : zTwo G (d + 3) mX11_copy mX12_copy [zi x1, zi x2, zi x3, zi x4, zi x5] n h := by
  obtain ⟨S, c, e, m, hm, j⟩ := jy
  refine zC_of (by decide +kernel) (Nat.le_of_ble_eq_true rfl) (L := [zr 0 0, zi x1, zi x2, zi x3, zi x4, zi x5, zu, zu]) ⟨rfl, ⟨rfl, ⟨rfl, ⟨rfl, ⟨rfl, ⟨rfl, trivial⟩⟩⟩⟩⟩⟩ ?_
  refine wX11_copy_0 (d := d + 1) ?_
  have fin : JY (n + 200) h := j.y (show m ≤ n + 200 by omega)
  have M : ∀ {h1 : ZH} {Q : Option ZV → ZH → Prop}, zT G (d + 3) mX12_copy 0 [zr 5 0, zi x1, zi x2, zi x3, zi x4, zi x5, zu, zu] [] h1 Q → zC G (d + 3) mX12_copy [zr 5 0, zi x1, zi x2, zi x3, zi x4, zi x5] h1 Q := fun k => zC_of (by decide +kernel) (Nat.le_of_ble_eq_true rfl) (L := [zr 5 0, zi x1, zi x2, zi x3, zi x4, zi x5, zu, zu]) ⟨rfl, ⟨rfl, ⟨rfl, ⟨rfl, ⟨rfl, ⟨rfl, trivial⟩⟩⟩⟩⟩⟩ k
  refine ⟨fun a1 => ⟨_, rfl, M (wX12_copy_0 ⟨fun _ => ⟨rfl, fin⟩, fun q => absurd q a1⟩)⟩, fun a1 => ⟨fun a3 => ?_, fun a3 => ⟨_, rfl, M (wX12_copy_0 ⟨fun q => absurd a1 q, fun _ => ⟨fun q => absurd q a3, fun _ => ⟨rfl, fin⟩⟩⟩)⟩⟩⟩
  obtain ⟨dd, hd, rfl⟩ := zin8 a1
  obtain ⟨ee, he, rfl⟩ := zin8 a3
  have vd : vp_in (nI dd) 8 := vpn hd (by decide)
  have ve : vp_in (nI ee) 8 := vpn he (by decide)
  have cd : (nI dd).toNatClampNeg = dd := nI_cl (by omega)
  have ce : (nI ee).toNatClampNeg = ee := nI_cl (by omega)
  have kz : ∀ q, q < 8 → h.1 38 0 q = h.1 3 q 0 := fun q hq => by
    obtain ⟨_, _, _, w⟩ := j.sh q hq
    rcases w with ⟨a, b⟩ | ⟨a, b, _⟩ | ⟨a, b, _⟩ <;> rw [a, b]
  have kr : ∀ q, q < 8 → h.1 3 q 0 = 2 → ∃ N t : Nat, N ≤ 100 ∧ t < 3 ∧ h.1 3 q 4 = nI N ∧ h.1 42 0 q = nI N ∧ h.1 3 q 3 = nI t ∧ h.1 41 0 q = nI t ∧ ∀ jj, jj < 100 → h.1 16 q jj = h.1 43 0 (100 * q + jj) ∧ (t = 0 → h.1 16 q jj = (h.1 16 q jj).toInt8.toInt32) := fun q hq z => by
    obtain ⟨N, hN, e4, w⟩ := j.sh q hq
    rcases w with ⟨a, b⟩ | ⟨a, b, _⟩ | ⟨a, b, t, ht, r1, r2, r3, r4⟩
    · rw [a] at z; exact absurd z (by decide)
    · rw [a] at z; exact absurd z (by decide)
    · exact ⟨N, t, hN, ht, e4, r3, r1, r2, r4⟩
  have kd := kz dd hd
  have ke := kz ee he
  have A1 : (0 ≤ nI dd ∧ nI dd ≤ 7) = True := eq_true a1
  have A3 : (0 ≤ nI ee ∧ nI ee ≤ 7) = True := eq_true a3
  rw [cd, ce]
  refine ⟨vd, ve, fun b1 => ⟨_, rfl, M (wX12_copy_0 ?_)⟩, fun b1 => ⟨fun b3 => ⟨fun c1 => ⟨_, rfl, M (wX12_copy_0 ?_)⟩, fun c1 => ⟨fun c3 => ⟨_, rfl, M (wX12_copy_0 ?_)⟩, fun c3 => ?_⟩⟩, fun b3 => ⟨_, rfl, M (wX12_copy_0 ?_)⟩⟩⟩
  · rw [cd, ce, kd, ke]
    have B1 := eq_true b1
    simp only [A1, A3, vd, ve, B1, not_true_eq_false, not_false_eq_true, false_imp_iff, true_imp_iff, true_and, and_true]
    exact fin
  · rw [cd, ce, kd, ke]
    simp only [A1, A3, vd, ve, b1, b3, c1, not_true_eq_false, not_false_eq_true, false_imp_iff, true_imp_iff, true_and, and_true]
    exact fin
  · rw [cd, ce, kd, ke]
    have C1 := eq_true c1
    simp only [A1, A3, vd, ve, b1, b3, C1, c3, not_true_eq_false, not_false_eq_true, false_imp_iff, true_imp_iff, true_and, and_true]
    exact fin
  · obtain ⟨N1, t1, hN1, ht1, r4, r42, r3, r41, rl⟩ := kr dd hd c1
    obtain ⟨N2, t2, hN2, ht2, u4, u42, u3, u41, ul⟩ := kr ee he c3
    have C1 := eq_true c1
    have C3 := eq_true c3
    rw [r3, u3, r4, u4, span_iff hN1, span_iff hN2]
    refine ⟨fun t0 => ⟨fun p1 => ⟨_, rfl, M (wX12_copy_0 ?_)⟩, fun p1 => ⟨fun p3 => ?_, fun p3 => ⟨_, rfl, M (wX12_copy_0 ?_)⟩⟩⟩, fun t0 => ⟨_, rfl, M (wX12_copy_0 ?_)⟩⟩
    · rw [cd, ce, kd, ke, r41, u41, r42, u42]
      have T0 := eq_true t0
      simp only [A1, A3, vd, ve, b1, b3, C1, C3, T0, not_true_eq_false, not_false_eq_true, false_imp_iff, true_imp_iff, true_and, and_true]
      refine ⟨fun _ => fin, fun n5 => ⟨fun _ => fin, fun n2 => ⟨fun _ => fin, fun n4 => ⟨fun _ => fin, fun q => absurd ((span_m hN1 n5 n2).mp q) p1⟩⟩⟩⟩
    · obtain ⟨i, k, rfl, rfl, hik⟩ := p1
      obtain ⟨jj, k', rfl, ek, hjk⟩ := p3
      have ek' : k' = k := ((nI_eq (by omega) (by omega)).mp ek).symm
      subst ek'
      rw [nI_cl (show i ≤ 4096 by omega), nI_cl (show jj ≤ 4096 by omega), nI_cl (show k' ≤ 4096 by omega)]
      refine ⟨nI_pos (by omega), nI_pos (by omega), nI_pos (by omega), by omega, by omega, fun h1 e1 => ⟨_, rfl, M (wX12_copy_0 ?_)⟩⟩
      have o1 : ∀ q y, q ≠ 16 → h1.1 q 0 y = h.1 q 0 y := fun q y hq => by rw [e1, zsR_at, if_neg (fun z => hq z.1)]
      rw [cd, ce, o1 38 dd (by decide), o1 38 ee (by decide), o1 41 dd (by decide), o1 41 ee (by decide), o1 42 dd (by decide), o1 42 ee (by decide), kd, ke, r41, u41, r42, u42]
      have T0 := eq_true t0
      have n5 : ¬ nI k' < 0 := nI_pos (by omega)
      have n2 : ¬ nI i < 0 := nI_pos (by omega)
      have n4 : ¬ nI jj < 0 := nI_pos (by omega)
      have w1 := (span_m hN1 n5 n2).mpr ⟨i, k', rfl, rfl, hik⟩
      have w2 := eq_true (Int32.not_lt.mp ((span_m hN2 n5 n4).mpr ⟨jj, k', rfl, rfl, hjk⟩))
      simp only [A1, A3, vd, ve, b1, b3, C1, C3, T0, n5, n2, n4, w1, w2, not_true_eq_false, not_false_eq_true, false_imp_iff, true_imp_iff, true_and, and_true]
      have L := cp_loop (G := G) d (h1 := h1) hd he (show i + k' ≤ 100 by omega) (show jj + k' ≤ 100 by omega) k' 0 (by omega) h1 (by
        have : (if i ≤ jj then k' - 0 else 0) = (if i ≤ jj then k' else 0) := by rw [Nat.sub_zero]
        rw [this, cpF_0, zsR_id])
      refine zT_mono L ?_
      rintro r h3 ⟨rfl, e3⟩
      refine ⟨rfl, ?_⟩
      have fc : zfz (eSc ee) h h1 := by rw [e1]; exact zfz.R _ h _ (fun _ => by unfold eSc; simp)
      have fm : zfz (eSm ee) h1 h3 := by
        intro q ii y hq
        rw [e3]
        refine ⟨?_, rfl⟩
        rw [zsR_at]
        by_cases z : q = 43 ∧ ii = 0
        · rw [if_pos z]
          obtain ⟨rfl, rfl⟩ := z
          unfold cpF
          rw [if_neg]
          intro w
          unfold eSm at hq
          simp at hq
          omega
        · rw [if_neg z]
      refine (j.shelf fc fm ?_).y (show m ≤ n + 200 by omega)
      have low : ∀ q ii y, q ≠ 16 → q ≠ 43 → h3.1 q ii y = h.1 q ii y := fun q ii y a b => by rw [e3, zsR_at, if_neg (fun z => b z.1), e1, zsR_at, if_neg (fun z => a z.1)]
      have tt : t1 = t2 := (nI_eq (by omega) (by omega)).mp t0
      refine ⟨N2, hN2, by rw [low 3 ee 4 (by decide) (by decide)]; exact u4, Or.inr (Or.inr ⟨by rw [low 3 ee 0 (by decide) (by decide)]; exact c3, by rw [low 38 0 ee (by decide) (by decide), ke]; exact c3, t2, ht2, by rw [low 3 ee 3 (by decide) (by decide)]; exact u3, by rw [low 41 0 ee (by decide) (by decide)]; exact u41, by rw [low 42 0 ee (by decide) (by decide)]; exact u42, fun y hy => ?_⟩)⟩
      have a16 : h3.1 16 ee y = if jj ≤ y ∧ y < jj + k' then h.1 16 dd (i + (y - jj)) else h.1 16 ee y := by
        rw [e3, zsR_at, if_neg (by simp), e1, zsR_at, if_pos ⟨rfl, rfl⟩]
        by_cases z : jj ≤ y ∧ y < jj + k'
        · rw [if_pos z, pk_cpy_in z.1 z.2]
        · rw [if_neg z, pk_cpy_out (by omega)]
      have a43 : h3.1 43 0 (100 * ee + y) = if jj ≤ y ∧ y < jj + k' then h.1 43 0 (100 * dd + (i + (y - jj))) else h.1 43 0 (100 * ee + y) := by
        have r43 : h1.1 43 0 = h.1 43 0 := funext fun w => o1 43 w (by decide)
        rw [e3, zsR_at, if_pos ⟨rfl, rfl⟩, r43]
        unfold cpF
        by_cases z : jj ≤ y ∧ y < jj + k'
        · have ew : 100 * dd + i + (100 * ee + y - (100 * ee + jj)) = 100 * dd + (i + (y - jj)) := by omega
          rw [if_pos z, if_pos (by omega), ew]
        · rw [if_neg z, if_neg (by omega)]
      rw [a16, a43]
      by_cases z : jj ≤ y ∧ y < jj + k'
      · rw [if_pos z, if_pos z]
        have := rl (i + (y - jj)) (by omega)
        rw [tt] at this
        exact this
      · rw [if_neg z, if_neg z]
        exact ul y hy
    · rw [cd, ce, kd, ke, r41, u41, r42, u42]
      obtain ⟨i, k, rfl, rfl, hik⟩ := p1
      have T0 := eq_true t0
      simp only [A1, A3, vd, ve, b1, b3, C1, C3, T0, not_true_eq_false, not_false_eq_true, false_imp_iff, true_imp_iff, true_and, and_true]
      refine ⟨fun _ => fin, fun n5 => ⟨fun _ => fin, fun n2 => ⟨fun _ => fin, fun n4 => ⟨fun _ => fin, fun q => ⟨fun q2 => absurd ((span_m hN2 n5 n4).mp (Int32.not_lt.mpr q2)) p3, fun _ => fin⟩⟩⟩⟩⟩
    · rw [cd, ce, kd, ke, r41, u41, r42, u42]
      simp only [A1, A3, vd, ve, b1, b3, C1, C3, t0, not_true_eq_false, not_false_eq_true, false_imp_iff, true_imp_iff, true_and, and_true]
      exact fin
  · rw [cd, ce, kd, ke]
    have B3 := eq_true b3
    simp only [A1, A3, vd, ve, b1, B3, not_true_eq_false, not_false_eq_true, false_imp_iff, true_imp_iff, true_and, and_true]
    exact fin
