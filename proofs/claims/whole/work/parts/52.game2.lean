/-! ===== game, both sides ===== -/
abbrev gW : Nat → Nat := fun v => 1 - v
/-- the first that wins -/
def wfst (e : ZQ5) (T : Nat) : Nat → Nat → Int32
  | 0, _ => -4
  | f + 1, p => if safe1 e T p = true ∧ gen gW e (zsd T (2 ^ p)) = 0 then nI p else wfst e T f (p + 1)
def wpl (e : ZQ5) (T : Nat) : Int32 := wfst e T 12 0
theorem wfst_none {e : ZQ5} {T : Nat} : ∀ (f p : Nat), p + f = 12 → (wfst e T f p = -4 ↔ ∀ q, p ≤ q → q < 12 → ¬ (safe1 e T q = true ∧ gen gW e (zsd T (2 ^ q)) = 0)) := by
  intro f
  induction f with
  | zero =>
    intro p hp
    exact ⟨fun _ q h1 h2 => by omega, fun _ => rfl⟩
  | succ f ih =>
    intro p hp
    rw [wfst]
    by_cases z : safe1 e T p = true ∧ gen gW e (zsd T (2 ^ p)) = 0
    · rw [if_pos z]
      exact ⟨fun h => absurd h (n4_ne (by omega)), fun h => absurd z (h p (Nat.le_refl _) (by omega))⟩
    · rw [if_neg z, ih (p + 1) (by omega)]
      constructor
      · intro h q h1 h2
        by_cases w : q = p
        · rw [w]; exact z
        · exact h q (by omega) h2
      · intro h q h1 h2
        exact h q (by omega) h2
theorem maxN_0 {f : Nat → Nat} : ∀ {n : Nat}, (maxN 0 f n = 0 ↔ ∀ p, p < n → f p = 0) := by
  intro n
  induction n with
  | zero => exact ⟨fun _ p hp => absurd hp (Nat.not_lt_zero p), fun _ => rfl⟩
  | succ n ih =>
    rw [maxN]
    constructor
    · intro h p hp
      have l1 := Nat.le_max_left (maxN 0 f n) (f n)
      have l2 := Nat.le_max_right (maxN 0 f n) (f n)
      by_cases z : p = n
      · rw [z]; omega
      · exact (ih.mp (by omega)) p (by omega)
    · intro h
      rw [ih.mpr (fun p hp => h p (by omega)), h n (by omega)]
      rfl
theorem gen_le1 (e : ZQ5) (T : Nat) : gen gW e T ≤ 1 := game_le e 13 T
theorem wpl_none {e : ZQ5} {T : Nat} (hT : T < 4096) : wpl e T = -4 ↔ gen gW e T = 0 := by
  unfold wpl
  rw [wfst_none 12 0 (by decide), gen_is gW e hT, maxN_0]
  constructor
  · intro h p hp
    unfold genU
    by_cases s : safe1 e T p = true
    · rw [if_pos s]
      have q := h p (Nat.zero_le _) hp
      have l := gen_le1 e (zsd T (2 ^ p))
      have : gen gW e (zsd T (2 ^ p)) ≠ 0 := fun z => q ⟨s, z⟩
      show 1 - gen gW e (zsd T (2 ^ p)) = 0
      omega
    · rw [if_neg s]
  · rintro h p _ hp ⟨s, z⟩
    have q := h p hp
    unfold genU at q
    rw [if_pos s, z] at q
    cases q
theorem wpl_ne1 {e : ZQ5} {T : Nat} : wpl e T ≠ -1 := by
  have : ∀ (f p : Nat), p + f = 12 → wfst e T f p ≠ -1 := by
    intro f
    induction f with
    | zero => intro p _; rw [wfst]; decide
    | succ f ih =>
      intro p hp
      rw [wfst]
      split
      · have : ∀ p, p < 12 → nI p ≠ -1 := by decide
        exact this p (by omega)
      · exact ih (p + 1) (by omega)
  exact this 12 0 (by decide)
/-- what the class keeps of it -/
def WG (e : ZQ5) (h : ZH) : Prop := ∀ T, T < 4096 → h.1 18 0 T = -1 ∨ h.1 18 0 T = wpl e T
theorem WG.fx {e : ZQ5} {h h' : ZH} (w : WG e h) (f : zfx eF h h') : WG e h' := fun T hT => by
  rw [(f 18 0 T (eF_no (by decide) (by decide) (by decide))).1]
  exact w T hT
theorem WG_put {e : ZQ5} {h1 h2 : ZH} {T : Nat} (w : WG e h1) (e2 : h2 = zs1 h1 18 0 T (wpl e T)) : WG e h2 := fun U hU => by
  rw [e2, zs1_at]
  by_cases z : U = T
  · subst z; rw [if_pos ⟨rfl, rfl, rfl⟩]; exact Or.inr rfl
  · rw [if_neg (fun q => z q.2.2)]; exact w U hU
set_option maxHeartbeats 1000000 in
theorem jX3_winIn {G : ZG} (d : Nat) {S : Nat} {c e : ZQ5} {N : ZN} : ∀ (n T t : Nat) (h : ZH), zpc T ≤ n → t + zpc T ≤ 12 → zle T S → JX h S c e N → WG e h → zC G (d + n + 6) mX3_winningPlaceIn [zr 1 0, zi (nI T), zi (nI t)] h (fun r h' => r = some (zi (wpl e T)) ∧ JX h' S c e N ∧ WG e h') := by
  intro n
  induction n with
  | zero =>
    intro T t h hn ht hT j w
    have hT4 := zle_lt hT j.lt
    have T0 : T = 0 := (zpc_eq0 hT4).mp (by omega)
    refine zC_of (by decide +kernel) (Nat.le_of_ble_eq_true rfl) (L := [zr 1 0, zi (nI T), zi (nI t), zu, zu]) ⟨rfl, ⟨rfl, ⟨rfl, trivial⟩⟩⟩ ?_
    have v : vp_in (nI T) 4096 := vpn hT4 (by decide)
    refine wX3_winningPlaceIn_0 ?_
    refine br_t (n13_le (by omega)) ⟨v, ?_⟩
    rw [nI_cl (show T ≤ 4096 by omega)]
    refine ⟨fun u => ?_, fun u => ⟨v, ?_, j, w⟩⟩
    · have ns : ∀ m, ¬ safe1 e T m = true := by
        intro m s
        have := (safe1_bit s).1
        rw [T0, Nat.zero_testBit] at this
        cases this
      have wz : wpl e T = -4 := by
        unfold wpl
        rw [wfst_none 12 0 (by decide)]
        rintro q _ _ ⟨s, _⟩
        exact ns q s
      have key : ∀ (f m : Nat) (h1 : ZH), f + m = 12 → JX h1 S c e N → WG e h1 → zT G (d + 0 + 6) mX3_winningPlaceIn 32 [zr 1 0, zi (nI T), zi (nI t), zi (-4), zi (nI m)] [] h1 (fun r h' => r = some (zi (wpl e T)) ∧ JX h' S c e N ∧ WG e h') := by
        intro f
        induction f with
        | zero =>
          intro m h1 hm j1 w1
          have em : m = 12 := by omega
          subst em
          refine wX3_winningPlaceIn_32 ?_
          refine br_t (by decide) ⟨v, ?_⟩
          rw [nI_cl (show T ≤ 4096 by omega)]
          intro h2 e2
          refine ⟨by rw [wz], by rw [e2]; exact j1.fW (zfx.s1 eW h1 _ rfl), WG_put w1 (by rw [wz]; exact e2)⟩
        | succ f ih2 =>
          intro m h1 hm j1 w1
          have hm' : m < 12 := by omega
          refine wX3_winningPlaceIn_32 ?_
          refine br_f (nI_ge (a := m) (b := 12) (by omega) (by decide)) ?_
          rw [nI_1, nI_1]
          refine ⟨fun q => absurd rfl q, fun _ => ?_⟩
          refine zC_mono (jX3_isSafeF d j1 hT hm') ?_
          rintro r h2 ⟨rfl, j2, f2⟩
          refine ⟨_, rfl, ?_⟩
          rw [zb_eq0]
          exact ⟨fun q => absurd (Classical.not_not.mp q) (ns m), fun q => ih2 (m + 1) h2 (by omega) j2 (w1.fx f2)⟩
      exact key 12 0 h (by omega) j w
    · rcases w T hT4 with q | q
      · exact absurd q u
      · rw [q]
  | succ n ih =>
    intro T t h hn ht hT j w
    have hT4 := zle_lt hT j.lt
    refine zC_of (by decide +kernel) (Nat.le_of_ble_eq_true rfl) (L := [zr 1 0, zi (nI T), zi (nI t), zu, zu]) ⟨rfl, ⟨rfl, ⟨rfl, trivial⟩⟩⟩ ?_
    have v : vp_in (nI T) 4096 := vpn hT4 (by decide)
    refine wX3_winningPlaceIn_0 ?_
    refine br_t (n13_le (by omega)) ⟨v, ?_⟩
    rw [nI_cl (show T ≤ 4096 by omega)]
    refine ⟨fun u => ?_, fun u => ⟨v, ?_, j, w⟩⟩
    · have key : ∀ (f m : Nat) (h1 : ZH), f + m = 12 → JX h1 S c e N → WG e h1 → wfst e T f m = wpl e T → zT G (d + (n + 1) + 6) mX3_winningPlaceIn 32 [zr 1 0, zi (nI T), zi (nI t), zi (-4), zi (nI m)] [] h1 (fun r h' => r = some (zi (wpl e T)) ∧ JX h' S c e N ∧ WG e h') := by
        intro f
        induction f with
        | zero =>
          intro m h1 hm j1 w1 ho
          have em : m = 12 := by omega
          subst em
          have ho' : (-4 : Int32) = wpl e T := ho
          refine wX3_winningPlaceIn_32 ?_
          refine br_t (by decide) ⟨v, ?_⟩
          rw [nI_cl (show T ≤ 4096 by omega)]
          intro h2 e2
          refine ⟨by rw [ho'], by rw [e2]; exact j1.fW (zfx.s1 eW h1 _ rfl), WG_put w1 (by rw [← ho']; exact e2)⟩
        | succ f ih2 =>
          intro m h1 hm j1 w1 ho
          have hm' : m < 12 := by omega
          refine wX3_winningPlaceIn_32 ?_
          refine br_f (nI_ge (a := m) (b := 12) (by omega) (by decide)) ?_
          rw [nI_1, nI_1, zsd_p hT4 hm']
          rw [wfst] at ho
          refine ⟨fun q => absurd rfl q, fun _ => ?_⟩
          refine zC_mono (jX3_isSafeF (d + (n + 1)) j1 hT hm') ?_
          rintro r h2 ⟨rfl, j2, f2⟩
          refine ⟨_, rfl, ?_⟩
          rw [zb_eq0]
          refine ⟨fun q => ?_, fun q => ?_⟩
          · have q' := Classical.not_not.mp q
            have s := (safe1_bit q').1
            have pc := zsd_pc hT4 s
            refine zC_mono (ih (zsd T (2 ^ m)) (t + 1) h2 (by omega) (by omega) (zle_sd hT4 hT) j2 (w1.fx f2)) ?_
            rintro r h3 ⟨rfl, j3, w3⟩
            refine ⟨_, rfl, ?_⟩
            rw [wpl_none (zsd_lt hT4)]
            refine ⟨fun y => ?_, fun y => ?_⟩
            · rw [if_neg (fun k => y k.2)] at ho
              exact ih2 (m + 1) h3 (by omega) j3 w3 ho
            · rw [if_pos ⟨q', y⟩] at ho
              -- found: the loop ends at once
              refine wX3_winningPlaceIn_32 ?_
              rw [nI_cl (show T ≤ 4096 by omega)]
              have done : ∀ h4 : ZH, h4 = zs1 h3 18 0 T (nI m) → (fun (r : Option ZV) h' => r = some (zi (wpl e T)) ∧ JX h' S c e N ∧ WG e h') (some (zi (nI m))) h4 := by
                intro h4 e4
                exact ⟨by rw [ho], by rw [e4]; exact j3.fW (zfx.s1 eW h3 _ rfl), WG_put w3 (by rw [← ho]; exact e4)⟩
              exact ⟨fun _ => ⟨v, done⟩, fun _ => ⟨fun _ => ⟨v, done⟩, fun z => absurd z (n4_ne hm')⟩⟩
          · rw [if_neg (fun k => q k.1)] at ho
            exact ih2 (m + 1) h2 (by omega) j2 (w1.fx f2) ho
      exact key 12 0 h (by omega) j w rfl
    · rcases w T hT4 with q | q
      · exact absurd q u
      · rw [q]
def gameV (e : ZQ5) (S : Nat) (w : Int32) : Int32 := if 0 ≤ w ∧ w ≤ 1 then (if w = 1 then wpl e S else nI (gen gW e S)) else -1
theorem WG_fill {e : ZQ5} {h h1 : ZH} (e1 : h1 = zsR h 18 0 (zfl (h.1 18 0) (-1) 4096)) : WG e h1 ∧ zfx eW h h1 := by
  refine ⟨fun T hT => Or.inl ?_, ?_⟩
  · rw [e1, zsR_row]
    unfold zfl
    rw [if_pos hT]
  · rw [e1]
    exact zfx.R eW h _ (fun _ => rfl)
theorem pX11_game {G : ZG} (d : Nat) {h : ZH} {S : Nat} {c e : ZQ5} {N : ZN} (j : JX h S c e N) (w : Int32) : zC G (d + 20) mX11_game [zr 0 0, zi w] h (zJ S c e N (gameV e S w)) := by
  refine zC_of (by decide +kernel) (Nat.le_of_ble_eq_true rfl) (L := [zr 0 0, zi w, zu]) ⟨rfl, ⟨rfl, trivial⟩⟩ ?_
  refine wX11_game_0 (d := d + 12) ?_
  unfold gameV
  have hS := j.lt
  have pcS := zpc_le S
  refine ⟨fun a => ?_, fun a => ⟨by rw [if_neg a], j⟩⟩
  rw [if_pos a]
  have wp : zC G (d + 12 + 7) mX3_winningPlace [zr 1 0] h (zJ S c e N (wpl e S)) := by
    refine zC_of (by decide +kernel) (Nat.le_of_ble_eq_true rfl) (L := [zr 1 0]) ⟨rfl, trivial⟩ ?_
    refine wX3_winningPlace_0 ?_
    refine zC_mono (sJ7_fillI (d + 12 + 5) rfl (by decide)) ?_
    rintro r h1 ⟨rfl, e1⟩
    obtain ⟨w1, f1⟩ := WG_fill (e := e) e1
    have j1 := j.fW f1
    refine ⟨rfl, ?_⟩
    rw [j1.st6]
    refine zC_mono (jX3_winIn d 12 S 0 h1 pcS (by omega) (zle_rf S) j1 w1) ?_
    rintro r h2 ⟨rfl, j2, w2⟩
    exact ⟨_, rfl, rfl, j2⟩
  refine zC_mono wp ?_
  rintro r h1 ⟨rfl, j1⟩
  refine ⟨_, rfl, fun z => ?_, fun z => ⟨by rw [if_pos z], j1⟩⟩
  rw [if_neg z, wpl_none hS]
  have l := gen_le1 e S
  refine ⟨fun y => ⟨?_, j1⟩, fun y => ⟨by rw [y]; rfl, j1⟩⟩
  have : gen gW e S = 1 := by omega
  rw [this]
  rfl
theorem gfst_game (e : ZQ5) {S : Nat} (h : gen gW e S ≠ 0) : ∀ f p, gfst gW e S f p = wfst e S f p := by
  have l := gen_le1 e S
  have h1 : gen gW e S = 1 := by omega
  intro f
  induction f with
  | zero => intro p; rfl
  | succ f ih =>
    intro p
    rw [gfst, wfst, ih]
    have l2 := gen_le1 e (zsd S (2 ^ p))
    by_cases z : safe1 e S p = true ∧ gen gW e (zsd S (2 ^ p)) = 0
    · rw [if_pos z, if_pos ⟨z.1, by rw [h1, z.2]⟩]
    · rw [if_neg z, if_neg]
      rintro ⟨q1, q2⟩
      refine z ⟨q1, ?_⟩
      rw [h1] at q2
      have q2' : 1 = 1 - gen gW e (zsd S (2 ^ p)) := q2
      omega
theorem pX12_game {G : ZG} (d : Nat) {h : ZH} {S : Nat} {c e : ZQ5} {N : ZN} (j : JX h S c e N) (w : Int32) : zC G (d + 9) mX12_game [zr 5 0, zi w] h (zJ S c e N (gameV e S w)) := by
  refine zC_of (by decide +kernel) (Nat.le_of_ble_eq_true rfl) (L := [zr 5 0, zi w]) ⟨rfl, ⟨rfl, trivial⟩⟩ ?_
  refine wX12_game_0 ?_
  unfold gameV
  have hS := j.lt
  refine ⟨fun a => ?_, fun a => ⟨by rw [if_neg a], j⟩⟩
  rw [if_pos a]
  refine zC_mono (jX12_finds d (gOk_game e) j) ?_
  rintro r h1 ⟨rfl, j1, k1⟩
  refine ⟨rfl, fun z => ?_, fun z => ?_⟩
  · refine zC_mono (jX12_firstTo d (gOk_game e) j1 k1) ?_
    rintro r h2 ⟨rfl, j2⟩
    refine ⟨_, rfl, ?_, j2⟩
    have w1 : w = 1 := (n01 a).resolve_left z
    rw [if_pos w1]
    by_cases y : gen gW e S = 0
    · rw [if_pos y, (wpl_none hS).mpr y]
    · rw [if_neg y, gfst_game e y]
      rfl
  · have kS : kv gW e S S = gen gW e S := by
      unfold kv
      rw [if_pos]
      unfold kOk
      simp only [Bool.and_eq_true, decide_eq_true_eq]
      exact ⟨(zsd_z hS).mpr (zle_rf S), j.setl⟩
    rw [j1.m0, nI_cl (show S ≤ 4096 by omega), k1 S hS, kS, if_neg (by rw [z]; decide)]
    exact ⟨vpn hS (by decide), rfl, j1⟩
