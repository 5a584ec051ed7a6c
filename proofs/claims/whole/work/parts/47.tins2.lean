/-! ===== tins, forged: the model goes through all takings ===== -/
def fstN (e : ZQ5) (E : Nat → Int32) : Nat → Nat → Nat → Int32 → Int32
  | 0, _, _, first => first
  | r + 1, i, T, first => fstN e E r (i + 1) (stl e (zsd T (2 ^ (fq (wayU e E r i T) 12)))) (if i = 0 then nI (fq (wayU e E r i T) 12) else first)
theorem fstN_pos (e : ZQ5) (E : Nat → Int32) : ∀ (r i T : Nat) (first : Int32), 0 < i → fstN e E r i T first = first := by
  intro r
  induction r with
  | zero => intro i T first _; rfl
  | succ r ih =>
    intro i T first h
    rw [fstN, ih _ _ _ (by omega), if_neg (by omega)]
theorem zne_12 {a b : Nat} (ha : a < 4096) (hb : b < 4096) : nI a = nI b ↔ a = b := zi_inj ha hb
/-- what the model has counted -/
def tkS (h : ZH) (W : Nat) (F : Int32) (R : Nat) : Prop := h.1 5 0 11 = nI W ∧ h.1 5 0 12 = F ∧ h.1 5 0 13 = nI R
theorem tkS.S {h h' : ZH} {W : Nat} {F : Int32} {R : Nat} (t : tkS h W F R) (a : zfx eS h h') : tkS h' W F R := ⟨by rw [(a 5 0 11 (by decide)).1]; exact t.1, by rw [(a 5 0 12 (by decide)).1]; exact t.2.1, by rw [(a 5 0 13 (by decide)).1]; exact t.2.2⟩
theorem sum_if {u : Nat → Nat} {W m : Nat} {a : Nat → Int32} {F : Int32} (hu : 0 < u m) : (if (W + sumN u m) = 0 then a m else (if W = 0 ∧ 0 < sumN u m then a (fq u m) else F)) = (if W = 0 ∧ 0 < sumN u (m + 1) then a (fq u (m + 1)) else F) := by
  have e : sumN u (m + 1) = sumN u m + u m := rfl
  by_cases w : W = 0
  · by_cases s : sumN u m = 0
    · rw [if_pos (by omega), if_pos ⟨w, by omega⟩, fq, if_pos s]
    · rw [if_neg (by omega), if_pos ⟨w, by omega⟩, if_pos ⟨w, by omega⟩, fq, if_neg s]
  · rw [if_neg (by omega), if_neg (fun q => w q.1), if_neg (fun q => w q.1)]
theorem sum_no {u : Nat → Nat} {m : Nat} (hu : u m = 0) : sumN u (m + 1) = sumN u m ∧ (0 < sumN u m → fq u (m + 1) = fq u m) := by
  refine ⟨by rw [sumN, hu]; rfl, fun h => ?_⟩
  rw [fq, if_neg (by omega)]
set_option maxHeartbeats 1000000 in
theorem jX12_takesAll {G : ZG} (d : Nat) {S : Nat} {c e : ZQ5} {N : ZN} {dd n : Nat} (hr : tinRow N.2 dd n) : ∀ (r i T : Nat) (first : Int32) (h : ZH) (W : Nat) (F : Int32) (R : Nat), i + r = n → zle T S → JX h S c e N → tkS h W F R → W ≤ 2 ^ 20 - 12 ^ r → R ≤ 4 → zC G (d + r + 7) mX12_takesAll [zr 5 0, zi (nI dd), zi (nI i), zi (nI T), zi first] h (fun rr h' => rr = none ∧ JX h' S c e N ∧ tkS h' (W + waysN e (elN N.2 dd) r i T) (if W = 0 ∧ 0 < waysN e (elN N.2 dd) r i T then fstN e (elN N.2 dd) r i T first else F) (max R (belN e (elN N.2 dd) r i T))) := by
  obtain ⟨hd, hn, e4, e42, el⟩ := hr
  have v8 : vp_in (nI dd) 8 := vpn hd (by decide)
  have cd : (nI dd).toNatClampNeg = dd := nI_cl (by omega)
  intro r
  induction r with
  | zero =>
    intro i T first h W F R hi hT j t hW hR
    refine zC_of (by decide +kernel) (Nat.le_of_ble_eq_true rfl) (L := [zr 5 0, zi (nI dd), zi (nI i), zi (nI T), zi first, zu, zu]) ⟨rfl, ⟨rfl, ⟨rfl, ⟨rfl, ⟨rfl, trivial⟩⟩⟩⟩⟩ ?_
    refine wX12_takesAll_0 ?_
    intro h1 e1
    rw [t.2.2, zmax_n (by omega) (by omega)] at e1
    have j1 : JX h1 S c e N := by rw [e1]; exact j.s5 _ (by decide)
    have t1 : tkS h1 W F (max R i) := ⟨by rw [e1, zs1_at, if_neg (by simp)]; exact t.1, by rw [e1, zs1_at, if_neg (by simp)]; exact t.2.1, by rw [e1, zs1_at, if_pos ⟨rfl, rfl, rfl⟩]⟩
    refine ⟨v8, ?_⟩
    rw [cd, j1.k0 (by decide), e42]
    have ei : nI i = nI n := by congr 1
    refine ⟨fun q => absurd ei q, fun _ => ?_⟩
    rw [t1.1, show nI W = 0 ↔ W = 0 from (by rw [zi_0, nI_eq (by omega) (by decide)])]
    refine ⟨fun w => ?_, fun w => ?_⟩
    · intro h2 e2
      refine ⟨rfl, by rw [e2]; exact j1.s5 _ (by decide), ?_⟩
      rw [if_neg (fun q => w q.1)]
      exact ⟨by rw [e2, zs1_at, if_pos ⟨rfl, rfl, rfl⟩, nI_1]; rfl, by rw [e2, zs1_at, if_neg (by simp)]; exact t1.2.1, by rw [e2, zs1_at, if_neg (by simp)]; exact t1.2.2⟩
    · intro h3 e3 h4 e4'
      have s11 : h3.1 5 0 11 = nI W := by rw [e3, zs1_at, if_neg (by simp)]; exact t1.1
      rw [s11, nI_1] at e4'
      refine ⟨rfl, by rw [e4', e3]; exact (j1.s5 _ (by decide)).s5 _ (by decide), ?_⟩
      rw [if_pos ⟨w, Nat.zero_lt_one⟩]
      exact ⟨by rw [e4', zs1_at, if_pos ⟨rfl, rfl, rfl⟩]; rfl, by rw [e4', zs1_at, if_neg (by simp), e3, zs1_at, if_pos ⟨rfl, rfl, rfl⟩]; rfl, by rw [e4', zs1_at, if_neg (by simp), e3, zs1_at, if_neg (by simp)]; exact t1.2.2⟩
  | succ r ih =>
    intro i T first h W F R hi hT j t hW hR
    refine zC_of (by decide +kernel) (Nat.le_of_ble_eq_true rfl) (L := [zr 5 0, zi (nI dd), zi (nI i), zi (nI T), zi first, zu, zu]) ⟨rfl, ⟨rfl, ⟨rfl, ⟨rfl, ⟨rfl, trivial⟩⟩⟩⟩⟩ ?_
    refine wX12_takesAll_0 ?_
    intro h1 e1
    rw [t.2.2, zmax_n (by omega) (by omega)] at e1
    have j1 : JX h1 S c e N := by rw [e1]; exact j.s5 _ (by decide)
    have t1 : tkS h1 W F (max R i) := ⟨by rw [e1, zs1_at, if_neg (by simp)]; exact t.1, by rw [e1, zs1_at, if_neg (by simp)]; exact t.2.1, by rw [e1, zs1_at, if_pos ⟨rfl, rfl, rfl⟩]⟩
    refine ⟨v8, ?_⟩
    rw [cd, j1.k0 (by decide), e42, nI_eq (show i < 2 ^ 31 by omega) (show n < 2 ^ 31 by omega)]
    refine ⟨fun _ => ?_, fun q => absurd q (by omega)⟩
    have hT4 := zle_lt hT j.lt
    have ix := ix_el hd (show i < 100 by omega)
    have p20 : 12 ^ (r + 1) ≤ 12 ^ 4 := Nat.pow_le_pow_right (by decide) (by omega)
    have bU : ∀ m, belU e (elN N.2 dd) r i T m ≤ 4 := by
      intro m
      unfold belU
      split
      · have := belN_le e (elN N.2 dd) r (i + 1) (stl e (zsd T (2 ^ m))); omega
      · exact Nat.zero_le _
    have wU : ∀ m, wayU e (elN N.2 dd) r i T m ≤ 12 ^ r := by
      intro m
      unfold wayU
      split
      · exact waysN_le _ _ _ _ _
      · exact Nat.zero_le _
    have key : ∀ (f m : Nat) (h2 : ZH), f + m = 12 → JX h2 S c e N → tkS h2 (W + sumN (wayU e (elN N.2 dd) r i T) m) (if W = 0 ∧ 0 < sumN (wayU e (elN N.2 dd) r i T) m then fstN e (elN N.2 dd) r (i + 1) (stl e (zsd T (2 ^ (fq (wayU e (elN N.2 dd) r i T) m)))) (if i = 0 then nI (fq (wayU e (elN N.2 dd) r i T) m) else first) else F) (max R (maxN i (belU e (elN N.2 dd) r i T) m)) → zT G (d + (r + 1) + 7) mX12_takesAll 49 [zr 5 0, zi (nI dd), zi (nI i), zi (nI T), zi first, zi (nI m), zu] [] h2 (fun rr h' => rr = none ∧ JX h' S c e N ∧ tkS h' (W + waysN e (elN N.2 dd) (r + 1) i T) (if W = 0 ∧ 0 < waysN e (elN N.2 dd) (r + 1) i T then fstN e (elN N.2 dd) (r + 1) i T first else F) (max R (belN e (elN N.2 dd) (r + 1) i T))) := by
      intro f
      induction f with
      | zero =>
        intro m h2 hm j2 t2
        have em : m = 12 := by omega
        subst em
        refine wX12_takesAll_49 ?_
        exact br_t (by decide) ⟨rfl, j2, t2⟩
      | succ f ih2 =>
        intro m h2 hm j2 t2
        have hm' : m < 12 := by omega
        refine wX12_takesAll_49 ?_
        refine br_f (nI_ge (a := m) (b := 12) (by omega) (by decide)) ?_
        rw [hasI_iff hT4 (show m < 32 by omega), zi_sh hm', nI_1, nI_1, ix.1, ix.2.2]
        have skip : ∀ h3, JX h3 S c e N → tkS h3 (W + sumN (wayU e (elN N.2 dd) r i T) m) (if W = 0 ∧ 0 < sumN (wayU e (elN N.2 dd) r i T) m then fstN e (elN N.2 dd) r (i + 1) (stl e (zsd T (2 ^ (fq (wayU e (elN N.2 dd) r i T) m)))) (if i = 0 then nI (fq (wayU e (elN N.2 dd) r i T) m) else first) else F) (max R (maxN i (belU e (elN N.2 dd) r i T) m)) → ¬ tld e T m (elN N.2 dd i) = true → zT G (d + (r + 1) + 7) mX12_takesAll 49 [zr 5 0, zi (nI dd), zi (nI i), zi (nI T), zi first, zi (nI (m + 1)), zu] [] h3 (fun rr h' => rr = none ∧ JX h' S c e N ∧ tkS h' (W + waysN e (elN N.2 dd) (r + 1) i T) (if W = 0 ∧ 0 < waysN e (elN N.2 dd) (r + 1) i T then fstN e (elN N.2 dd) (r + 1) i T first else F) (max R (belN e (elN N.2 dd) (r + 1) i T))) := by
          intro h3 j3 t3 q
          have u0 : wayU e (elN N.2 dd) r i T m = 0 := if_neg q
          have b0 : belU e (elN N.2 dd) r i T m = 0 := if_neg q
          have sn := sum_no u0
          refine ih2 (m + 1) h3 (by omega) j3 ?_
          rw [maxN, b0, Nat.max_eq_left (Nat.zero_le _), sn.1]
          by_cases w : W = 0 ∧ 0 < sumN (wayU e (elN N.2 dd) r i T) m
          · rw [if_pos w] at t3 ⊢
            rw [sn.2 w.2]
            exact t3
          · rw [if_neg w] at t3 ⊢
            exact t3
        refine ⟨fun tb => ?_, fun tb => skip h2 j2 t2 (by unfold tld; simp [tb])⟩
        refine zC_mono (jX12_leftWithout (d + (r + 1)) j2 hT4) ?_
        rintro rr h3 ⟨rfl, _, j3, f3⟩
        refine ⟨_, rfl, ?_⟩
        have t3 := t2.S f3
        rw [bitsI_nI (stl_lt e (zsd_lt hT4)), j3.k0 (by decide)]
        refine ⟨ix.2.1, fun q => skip h3 j3 t3 (by unfold tld; intro z; simp only [Bool.and_eq_true, decide_eq_true_eq] at z; exact q z.2), fun q => ?_⟩
        have tl : tld e T m (elN N.2 dd i) = true := by
          unfold tld
          simp only [Bool.and_eq_true, decide_eq_true_eq]
          exact ⟨tb, q⟩
        have uu : wayU e (elN N.2 dd) r i T m = waysN e (elN N.2 dd) r (i + 1) (stl e (zsd T (2 ^ m))) := if_pos tl
        have bb : belU e (elN N.2 dd) r i T m = belN e (elN N.2 dd) r (i + 1) (stl e (zsd T (2 ^ m))) := if_pos tl
        have sl := sumN_le wU m
        have m12 : m * 12 ^ r ≤ 11 * 12 ^ r := Nat.mul_le_mul_right _ (by omega)
        have pr : 12 ^ (r + 1) = 12 ^ r * 12 := Nat.pow_succ 12 r
        have bm : maxN i (belU e (elN N.2 dd) r i T) m ≤ 4 := maxN_le (by omega) bU m
        -- the taking of this one
        have tk : ∀ a : Int32, a = (if i = 0 then nI m else first) → zC G (d + (r + 1) + 6) mX12_takesAll [zr 5 0, zi (nI dd), zi (nI (i + 1)), zi (nI (stl e (zsd T (2 ^ m)))), zi a] h3 (fun r5 h4 => r5 = none ∧ zT G (d + (r + 1) + 7) mX12_takesAll 49 [zr 5 0, zi (nI dd), zi (nI i), zi (nI T), zi first, zi (nI (m + 1)), zu] [] h4 (fun rr h' => rr = none ∧ JX h' S c e N ∧ tkS h' (W + waysN e (elN N.2 dd) (r + 1) i T) (if W = 0 ∧ 0 < waysN e (elN N.2 dd) (r + 1) i T then fstN e (elN N.2 dd) (r + 1) i T first else F) (max R (belN e (elN N.2 dd) (r + 1) i T)))) := by
          intro a ea
          refine zC_mono (ih (i + 1) _ a h3 _ _ _ (by omega) (stl_sub j.lt hT) j3 t3 (by omega) (by have := Nat.max_le.mpr ⟨hR, bm⟩; omega)) ?_
          rintro rr h4 ⟨rfl, j4, t4⟩
          refine ⟨rfl, ih2 (m + 1) h4 (by omega) j4 ?_⟩
          rw [maxN, bb, ← Nat.max_assoc]
          rw [show sumN (wayU e (elN N.2 dd) r i T) (m + 1) = sumN (wayU e (elN N.2 dd) r i T) m + wayU e (elN N.2 dd) r i T m from rfl, uu, ← Nat.add_assoc]
          by_cases pos : 0 < wayU e (elN N.2 dd) r i T m
          · have si := sum_if (u := wayU e (elN N.2 dd) r i T) (W := W) (m := m) (a := fun p => fstN e (elN N.2 dd) r (i + 1) (stl e (zsd T (2 ^ p))) (if i = 0 then nI p else first)) (F := F) pos
            rw [show sumN (wayU e (elN N.2 dd) r i T) (m + 1) = sumN (wayU e (elN N.2 dd) r i T) m + wayU e (elN N.2 dd) r i T m from rfl] at si
            rw [uu] at si
            rw [← si]
            rw [uu] at pos
            have : (if W + sumN (wayU e (elN N.2 dd) r i T) m = 0 ∧ 0 < waysN e (elN N.2 dd) r (i + 1) (stl e (zsd T (2 ^ m))) then fstN e (elN N.2 dd) r (i + 1) (stl e (zsd T (2 ^ m))) a else if W = 0 ∧ 0 < sumN (wayU e (elN N.2 dd) r i T) m then fstN e (elN N.2 dd) r (i + 1) (stl e (zsd T (2 ^ (fq (wayU e (elN N.2 dd) r i T) m)))) (if i = 0 then nI (fq (wayU e (elN N.2 dd) r i T) m) else first) else F) = (if W + sumN (wayU e (elN N.2 dd) r i T) m = 0 then fstN e (elN N.2 dd) r (i + 1) (stl e (zsd T (2 ^ m))) (if i = 0 then nI m else first) else if W = 0 ∧ 0 < sumN (wayU e (elN N.2 dd) r i T) m then fstN e (elN N.2 dd) r (i + 1) (stl e (zsd T (2 ^ (fq (wayU e (elN N.2 dd) r i T) m)))) (if i = 0 then nI (fq (wayU e (elN N.2 dd) r i T) m) else first) else F) := by
              rw [ea]
              by_cases w : W + sumN (wayU e (elN N.2 dd) r i T) m = 0
              · rw [if_pos ⟨w, pos⟩, if_pos w]
              · rw [if_neg (fun z => w z.1), if_neg w]
            rw [this] at t4
            exact t4
          · have z0 : wayU e (elN N.2 dd) r i T m = 0 := by omega
            have sn := sum_no z0
            rw [uu] at z0
            rw [z0] at t4 ⊢
            rw [if_neg (fun z => Nat.lt_irrefl 0 z.2)] at t4
            rw [Nat.add_zero] at t4 ⊢
            rw [Nat.add_zero]
            by_cases w : W = 0 ∧ 0 < sumN (wayU e (elN N.2 dd) r i T) m
            · rw [if_pos w] at t4 ⊢
              rw [sn.2 w.2]
              exact t4
            · rw [if_neg w] at t4 ⊢
              exact t4
        rw [show nI i = 0 ↔ i = 0 from (by rw [zi_0, nI_eq (by omega) (by decide)])]
        exact ⟨fun i0 => tk first (by rw [if_neg i0]), fun i0 => tk (nI m) (by rw [if_pos i0])⟩
    refine key 12 0 h1 (by omega) j1 ?_
    have z0 : ∀ v : Int32, (if W = 0 ∧ 0 < sumN (wayU e (elN N.2 dd) r i T) 0 then v else F) = F := fun v => if_neg (fun z => Nat.lt_irrefl 0 z.2)
    rw [z0]
    exact t1
theorem jX12_goesThrough {G : ZG} (d : Nat) {h : ZH} {S : Nat} {c e : ZQ5} {N : ZN} {dd n : Nat} (hr : tinRow N.2 dd n) (j : JX h S c e N) : zC G (d + n + 8) mX12_goesThrough [zr 5 0, zi (nI dd)] h (fun rr h' => rr = none ∧ JX h' S c e N ∧ tkS h' (waysN e (elN N.2 dd) n 0 S) (if 0 < waysN e (elN N.2 dd) n 0 S then fstN e (elN N.2 dd) n 0 S (-4) else -4) (belN e (elN N.2 dd) n 0 S)) := by
  refine zC_of (by decide +kernel) (Nat.le_of_ble_eq_true rfl) (L := [zr 5 0, zi (nI dd)]) ⟨rfl, ⟨rfl, trivial⟩⟩ ?_
  refine wX12_goesThrough_0 ?_
  intro h1 e1 h2 e2 h3 e3
  have j3 : JX h3 S c e N := by rw [e3, e2, e1]; exact ((j.s5 _ (by decide)).s5 _ (by decide)).s5 _ (by decide)
  have t3 : tkS h3 0 (-4) 0 := ⟨by rw [e3, zs1_at, if_neg (by simp), e2, zs1_at, if_neg (by simp), e1, zs1_at, if_pos ⟨rfl, rfl, rfl⟩]; rfl, by rw [e3, zs1_at, if_neg (by simp), e2, zs1_at, if_pos ⟨rfl, rfl, rfl⟩], by rw [e3, zs1_at, if_pos ⟨rfl, rfl, rfl⟩]; rfl⟩
  rw [j3.m0]
  refine zC_mono (jX12_takesAll d hr n 0 S (-4) h3 0 (-4) 0 (by omega) (zle_rf S) j3 t3 (Nat.zero_le _) (by decide)) ?_
  rintro rr h4 ⟨rfl, j4, t4⟩
  refine ⟨rfl, rfl, j4, ?_⟩
  rw [Nat.zero_add, Nat.max_eq_right (Nat.zero_le _)] at t4
  simp only [true_and] at t4
  exact t4
theorem frs_fst (e : ZQ5) (E : Nat → Int32) (S : Nat) : ∀ n, (if 0 < waysN e E n 0 S then fstN e E n 0 S (-4) else -4) = frsN e E S n := by
  intro n
  cases n with
  | zero => rfl
  | succ r =>
    rw [frsN, fstN, fstN_pos _ _ _ _ _ _ (by decide), if_pos rfl]
    by_cases z : waysN e E (r + 1) 0 S = 0
    · rw [if_pos z, if_neg (by omega)]
    · rw [if_neg z, if_pos (by omega)]
theorem pX12_tins {G : ZG} (d : Nat) {h : ZH} {S : Nat} {c e : ZQ5} {N : ZN} (j : JX h S c e N) (x w : Int32) : zC G (d + 13) mX12_tins [zr 5 0, zi x, zi w] h (zJ S c e N (tinV N.2 e S x w)) := by
  refine zC_of (by decide +kernel) (Nat.le_of_ble_eq_true rfl) (L := [zr 5 0, zi x, zi w, zu]) ⟨rfl, ⟨rfl, ⟨rfl, trivial⟩⟩⟩ ?_
  refine wX12_tins_0 (d := d + 4) ?_
  unfold tinV
  refine ⟨fun a => ?_, fun a => ⟨by rw [if_neg a], j⟩⟩
  rw [if_pos a]
  refine zC_mono (jX12_wrongTins (d + 8) j x) ?_
  rintro r h1 ⟨rfl, rfl⟩
  refine ⟨_, rfl, fun z => ?_, fun z => ⟨by rw [if_neg z], j⟩⟩
  rw [if_pos z]
  obtain ⟨dd, n, rfl, hd, hr⟩ := tin_0 j.sh0 z
  have hr' := hr
  obtain ⟨_, hn, e4, e42, el⟩ := hr'
  rw [nI_cl (show dd ≤ 4096 by omega), e42, nI_cl (show n ≤ 4096 by omega)]
  have k := jX12_goesThrough (G := G) (d + (4 - n)) hr j
  rw [show d + (4 - n) + n + 8 = d + 4 + 8 by omega] at k
  refine zC_mono k ?_
  rintro r h2 ⟨rfl, j2, t2⟩
  rw [t2.1, t2.2.1, frs_fst]
  exact ⟨rfl, fun w0 => ⟨by rw [if_neg w0], j2⟩, fun w0 => ⟨by rw [if_pos w0], j2⟩⟩
theorem pX12_forged {G : ZG} (d : Nat) {h : ZH} {S : Nat} {c e : ZQ5} {N : ZN} (j : JX h S c e N) (x : Int32) : zC G (d + 13) mX12_forged [zr 5 0, zi x] h (zJ S c e N (forgV N.2 e S x)) := by
  refine zC_of (by decide +kernel) (Nat.le_of_ble_eq_true rfl) (L := [zr 5 0, zi x, zu]) ⟨rfl, ⟨rfl, trivial⟩⟩ ?_
  refine wX12_forged_0 (d := d + 4) ?_
  unfold forgV
  refine zC_mono (jX12_wrongTins (d + 8) j x) ?_
  rintro r h1 ⟨rfl, rfl⟩
  refine ⟨_, rfl, fun z => ?_, fun z => ⟨by rw [if_neg z], j⟩⟩
  rw [if_pos z]
  obtain ⟨dd, n, rfl, hd, hr⟩ := tin_0 j.sh0 z
  have hr' := hr
  obtain ⟨_, hn, e4, e42, el⟩ := hr'
  rw [nI_cl (show dd ≤ 4096 by omega), e42, nI_cl (show n ≤ 4096 by omega)]
  have k := jX12_goesThrough (G := G) (d + (4 - n)) hr j
  rw [show d + (4 - n) + n + 8 = d + 4 + 8 by omega] at k
  refine zC_mono k ?_
  rintro r h2 ⟨rfl, j2, t2⟩
  rw [t2.2.2, j2.k0 (by decide), e42]
  exact ⟨rfl, vpn hd (by decide), fun q => ⟨by rw [if_neg q], j2⟩, fun q => ⟨by rw [if_pos q], j2⟩⟩
