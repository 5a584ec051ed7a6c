/-! ===== the law: its loop ===== -/
theorem xt_lstore {G : ZG} {R : Room} {A : State → Nat → Prop} {Z : NZ} {K : XP} {cells slots : Nat} {M : ZM} {pc pc' : Nat} {L S : List ZV} {h : ZH} {L' : List ZV} {n : Nat} {x : Int64} (hd : zD M.2.1 pc pc' (.lstore n) 2) (hn : n + 1 < M.2.2.1) (hl : zst2 L n x = L') (k : xT G R A Z K M pc' L' S h cells slots) : xT G R A Z K M pc L ((zl x) :: S) h cells slots := by
  obtain ⟨hd, rfl⟩ := hd
  intro p e s m args below meth c H locs ls hX hA hS hW hL
  obtain ⟨hx, hb, hml, hr, hts, hown, hlk, hK, hSt⟩ := id hX.1
  subst hl
  exact lv_lstore hx hb hd (zas_has hL) hn rfl (fun ls h1 => k p e s m args below meth c H locs ls hX hA hS hW (zlo_st2 h1))
def lwA : State → Nat → Prop := fun s q => s.heap.size ≤ q
def lwZ : NZ := fun below args s => lw_Z below args s
def lwK (G : ZG) (L : Nat) (xs : Nat → Int32) : XP := fun s args _ => args = #[.ref (G.2.2.2 45 0)] ∧ va_X (G.2.2.2 45 0) L xs s s.heap ∧ G.2.2.2 45 0 < s.heap.size
abbrev lT (G : ZG) (L : Nat) (xs : Nat → Int32) (pc : Nat) (Ls S : List ZV) (h : ZH) (cells slots : Nat) : Prop := xT G room_1 lwA lwZ (lwK G L xs) mL_law pc Ls S h cells slots
theorem xt_sub {G : ZG} {R : Room} {A : State → Nat → Prop} {Z : NZ} {K : XP} {cells slots : Nat} {M : ZM} {pc : Nat} {L S : List ZV} {h : ZH} {L' : List ZV} (hl : zleb L' L) (k : xT G R A Z K M pc L' S h cells slots) : xT G R A Z K M pc L S h cells slots := by
  intro p e s m args below meth c H locs ls hX hA hS hW hL
  exact k p e s m args below meth c H locs ls hX hA hS hW (zlo_sub hL (zleb_get L' L hl))
theorem xt_wide {G : ZG} {R : Room} {A : State → Nat → Prop} {Z : NZ} {K : XP} {cells slots c1 s1 : Nat} {M : ZM} {pc : Nat} {L S : List ZV} {h : ZH} (hc : cells ≤ c1) (hs : slots ≤ s1) (k : xT G R A Z K M pc L S h c1 s1) : xT G R A Z K M pc L S h cells slots := by
  intro p e s m args below meth c H locs ls hX hA hS hW hL
  exact W.widen (k := c1) (n := s1) hc hs (k p e s m args below meth c H locs ls hX hA hS hW hL)
section LL
variable {G : ZG} {L : Nat} {xs : Nat → Int32} {pc pc' : Nat} {Ls S : List ZV} {h : ZH} {cells slots : Nat}
theorem l_sld {j : Int32} (hd : zD cL_law pc pc' .iaload 1) (hj : vp_in j L) (k : lT G L xs pc' Ls (zi (xs j.toNatClampNeg) :: S) h cells slots) : lT G L xs pc Ls (zi j :: zr 45 0 :: S) h cells slots := by
  obtain ⟨hd, rfl⟩ := hd
  intro p e s m args below meth c H locs ls hX hA hS hW hL
  obtain ⟨hx, hb, hml, hr, hts, hown, hlk, hK, hSt⟩ := id hX.1
  exact va_sld hx hb hX.2.2.2.2.1 hX.2.2.2.2.2 (Nat.not_le.mpr hX.2.2.2.2.2) hS hj hd (k p e s m args below meth c H locs ls hX hA hS hW hL)
theorem l_len (hd : zD cL_law pc pc' .arraylength 1) (k : lT G L xs pc' Ls (zi (Int32.ofNat L) :: S) h cells slots) : lT G L xs pc Ls (zr 45 0 :: S) h cells slots := by
  obtain ⟨hd, rfl⟩ := hd
  intro p e s m args below meth c H locs ls hX hA hS hW hL
  obtain ⟨hx, hb, hml, hr, hts, hown, hlk, hK, hSt⟩ := id hX.1
  exact va_slen hx hb hX.2.2.2.2.1 hX.2.2.2.2.2 (Nat.not_le.mpr hX.2.2.2.2.2) hS hd (k p e s m args below meth c H locs ls hX hA hS hW hL)
theorem l_end (hd : decode cL_law pc = .ok (.ireturn, 1)) (hc : cells ≤ 601024) (hs : slots ≤ 7293034) : lT G L xs pc Ls [zi 1] h cells slots := by
  intro p e s m args below meth c H locs ls hX hA hS hW hL
  obtain ⟨hx, hb, hml, hr, hts, hown, hlk, hK, hSt⟩ := id hX.1
  have hargs : args = #[.ref (G.2.2.2 45 0)] := hX.2.2.2.1
  subst hargs
  refine W.widen (k := 601024) (n := 7293034) hc hs ?_
  refine va_forget (fun q hq => hS.2.2 q hq) ?_
  exact lw_ret hx hb hr hlk hd
def lPushB : Nat → List Nat → Bool
  | _, [] => true
  | pc, k :: ks => decide (decode cL_law pc = .ok (.aload_n 0, 1)) && decide (decode cL_law (pc + 1) = .ok (.iload 4, 2)) && decide (decode cL_law (pc + 3) = .ok (.iconst (k : Int), 1)) && decide (decode cL_law (pc + 4) = .ok (.iadd, 1)) && decide (decode cL_law (pc + 5) = .ok (.iaload, 1)) && lPushB (pc + 6) ks
def lV (xs : Nat → Int32) (i : Nat) (ks : List Nat) : List ZV := ks.map (fun k => zi (xs (i + k)))
theorem l_args {i : Nat} (h0 : Ls[0]? = some (zr 45 0)) (h4 : Ls[4]? = some (zi (nI i))) (hL : L ≤ 3072) (hi : i + 5 < L) : ∀ (ks : List Nat) (pc : Nat) (S : List ZV), lPushB pc ks = true → (∀ k ∈ ks, k ≤ 5) → lT G L xs (pc + 6 * ks.length) Ls ((lV xs i ks).reverse ++ S) h cells slots → lT G L xs pc Ls S h cells slots := by
  intro ks
  induction ks with
  | nil => intro pc S _ _ k; exact k
  | cons a ks ih =>
    intro pc S hp hk k
    simp only [lPushB, Bool.and_eq_true, decide_eq_true_eq] at hp
    obtain ⟨⟨⟨⟨⟨d0, d1⟩, d3⟩, d4⟩, d5⟩, hp⟩ := hp
    have ha : a ≤ 5 := hk a List.mem_cons_self
    have ea : Int32.ofInt (a : Int) = nI a := by
      have : ∀ a : Nat, a ≤ 5 → Int32.ofInt (a : Int) = nI a := by decide
      exact this a ha
    refine xt_aload_n (n := 0) (pc' := pc + 1) ⟨d0, rfl⟩ h0 ?_
    refine xt_iload (n := 4) (pc' := pc + 3) ⟨d1, rfl⟩ h4 ?_
    refine xt_iconst (v := nI a) (pc' := pc + 4) ⟨d3, rfl⟩ ea ?_
    refine xt_iadd (pc' := pc + 5) ⟨d4, rfl⟩ ?_
    rw [nI_add]
    refine l_sld (pc' := pc + 6) ⟨d5, rfl⟩ (vpn (show i + a < L by omega) (by omega)) ?_
    rw [nI_cl (show i + a ≤ 4096 by omega)]
    refine ih (pc + 6) (zi (xs (i + a)) :: S) hp (fun k h => hk k (List.mem_cons_of_mem _ h)) ?_
    have e1 : pc + 6 + 6 * ks.length = pc + 6 * (a :: ks).length := by simp only [List.length_cons]; omega
    have e2 : (lV xs i ks).reverse ++ zi (xs (i + a)) :: S = (lV xs i (a :: ks)).reverse ++ S := by simp [lV]
    rw [e1, e2]
    exact k
def lL (i : Nat) : List ZV := [zr 45 0, zr 0 0, zr 5 0, zr 44 0, zi (nI i), zu, zu, zu]
theorem lV_len (i : Nat) (ks : List Nat) : (lV xs i ks).length = ks.length := by unfold lV; rw [List.length_map]
def lCaseB (pc : Nat) (ks : List Nat) (c1 c2 : Nat) : Bool := decide (decode cL_law pc = .ok (.aload_n 1, 1)) && lPushB (pc + 1) ks && decide (decode cL_law (pc + 1 + 6 * ks.length) = .ok (.invokevirtual c1, 3)) && decide (decode cL_law (pc + 1 + 6 * ks.length + 3) = .ok (.aload_n 2, 1)) && lPushB (pc + 1 + 6 * ks.length + 3 + 1) ks && decide (decode cL_law (pc + 1 + 6 * ks.length + 3 + 1 + 6 * ks.length) = .ok (.invokevirtual c2, 3))
theorem rm_f : 24 + 1 ≤ room_1.frames := by decide
theorem rm_l : 48 * 24 + 48 ≤ room_1.locals := by decide
theorem l_two {i n N c1 c2 : Nat} {M1 M2 : ZM} {ks : List Nat} (hc : lCaseB pc ks c1 c2 = true) (hk : ∀ k ∈ ks, k ≤ 5) (hn : ks.length = n) (s1 : zVS RL c1 11 M1 n) (s2 : zVS RL c2 12 M2 n) (hL : L ≤ 3072) (hi : i + 5 < L) (hcl : cells ≤ 601024) (hsl : slots ≤ 7293034) (two : zTwo G 24 M1 M2 (lV xs i ks) N h) (kk : ∀ v h2, JY (N + 200) h2 → lT G L xs (pc + 1 + 6 * ks.length + 3 + 1 + 6 * ks.length + 3) (lL i) [zi v, zi v] h2 cells slots) : lT G L xs pc (lL i) [] h cells slots := by
  unfold lCaseB at hc
  simp only [Bool.and_eq_true, decide_eq_true_eq] at hc
  obtain ⟨⟨⟨⟨⟨d1, p1⟩, d2⟩, d3⟩, p2⟩, d4⟩ := hc
  refine xt_aload_n (n := 1) (pc' := pc + 1) ⟨d1, rfl⟩ rfl ?_
  refine l_args (i := i) rfl rfl hL hi ks (pc + 1) _ p1 hk ?_
  refine xt_cV (d := 24) (S := []) (as := lV xs i ks) (k := 0) (i := 0) (pc' := pc + 1 + 6 * ks.length + 3) ⟨d2, rfl⟩ s1 rfl (by decide) ((lV_len i ks).trans hn) (by simp) rfl rm_f rm_l hcl hsl two ?_
  rintro r h1 ⟨v, rfl, z⟩
  refine xt_aload_n (n := 2) (pc' := pc + 1 + 6 * ks.length + 3 + 1) ⟨d3, rfl⟩ rfl ?_
  refine l_args (i := i) rfl rfl hL hi ks (pc + 1 + 6 * ks.length + 3 + 1) _ p2 hk ?_
  refine xt_cV (d := 24) (S := [zi v]) (as := lV xs i ks) (k := 5) (i := 0) (pc' := pc + 1 + 6 * ks.length + 3 + 1 + 6 * ks.length + 3) ⟨d4, rfl⟩ s2 rfl (by decide) ((lV_len i ks).trans hn) (by simp) rfl rm_f rm_l hcl hsl z ?_
  rintro r2 h2 ⟨rfl, jy⟩
  exact kk v h2 jy
theorem l_twoX {i n N c1 c2 : Nat} {M1 M2 : ZM} {ks : List Nat} (hc : lCaseB pc ks c1 c2 = true) (hk : ∀ k ∈ ks, k ≤ 5) (hn : ks.length = n) (s1 : zVS RL c1 11 M1 n) (s2 : zVS RL c2 12 M2 n) (hL : L ≤ 3072) (hi : i + 5 < L) (hcl : cells + 1 ≤ 601024) (hsl : slots + 6 ≤ 7293034) (two : zTwoX G 24 M1 M2 (lV xs i ks) N h) (kk : ∀ v h2, JY (N + 200) h2 → lT G L xs (pc + 1 + 6 * ks.length + 3 + 1 + 6 * ks.length + 3) (lL i) [zi v, zi v] h2 (cells + 1) (slots + 6)) : lT G L xs pc (lL i) [] h cells slots := by
  unfold lCaseB at hc
  simp only [Bool.and_eq_true, decide_eq_true_eq] at hc
  obtain ⟨⟨⟨⟨⟨d1, p1⟩, d2⟩, d3⟩, p2⟩, d4⟩ := hc
  refine xt_aload_n (n := 1) (pc' := pc + 1) ⟨d1, rfl⟩ rfl ?_
  refine l_args (i := i) rfl rfl hL hi ks (pc + 1) _ p1 hk ?_
  refine xt_cVx (d := 24) (S := []) (as := lV xs i ks) (k := 0) (i := 0) (pc' := pc + 1 + 6 * ks.length + 3) ⟨d2, rfl⟩ s1 rfl (by decide) ((lV_len i ks).trans hn) (by simp) rfl rm_f rm_l hcl hsl two ?_
  rintro r h1 ⟨v, rfl, z⟩
  refine xt_aload_n (n := 2) (pc' := pc + 1 + 6 * ks.length + 3 + 1) ⟨d3, rfl⟩ rfl ?_
  refine l_args (i := i) rfl rfl hL hi ks (pc + 1 + 6 * ks.length + 3 + 1) _ p2 hk ?_
  refine xt_cV (d := 24) (S := [zi v]) (as := lV xs i ks) (k := 5) (i := 0) (pc' := pc + 1 + 6 * ks.length + 3 + 1 + 6 * ks.length + 3) ⟨d4, rfl⟩ s2 rfl (by decide) ((lV_len i ks).trans hn) (by simp) rfl rm_f rm_l hcl hsl z ?_
  rintro r2 h2 ⟨rfl, jy⟩
  exact kk v h2 jy
theorem l_twoL {i n N c1 c2 : Nat} {M1 M2 : ZM} {ks : List Nat} (hc : lCaseB pc ks c1 c2 = true) (hk : ∀ k ∈ ks, k ≤ 5) (hn : ks.length = n) (s1 : zVS RL c1 11 M1 n) (s2 : zVS RL c2 12 M2 n) (hL : L ≤ 3072) (hi : i + 5 < L) (hcl : cells ≤ 601024) (hsl : slots ≤ 7293034) (two : zTwoL G 24 M1 M2 (lV xs i ks) N h) (kk : ∀ v h2, JY (N + 200) h2 → lT G L xs (pc + 1 + 6 * ks.length + 3 + 1 + 6 * ks.length + 3) (lL i) [zl v, zl v] h2 cells slots) : lT G L xs pc (lL i) [] h cells slots := by
  unfold lCaseB at hc
  simp only [Bool.and_eq_true, decide_eq_true_eq] at hc
  obtain ⟨⟨⟨⟨⟨d1, p1⟩, d2⟩, d3⟩, p2⟩, d4⟩ := hc
  refine xt_aload_n (n := 1) (pc' := pc + 1) ⟨d1, rfl⟩ rfl ?_
  refine l_args (i := i) rfl rfl hL hi ks (pc + 1) _ p1 hk ?_
  refine xt_cV (d := 24) (S := []) (as := lV xs i ks) (k := 0) (i := 0) (pc' := pc + 1 + 6 * ks.length + 3) ⟨d2, rfl⟩ s1 rfl (by decide) ((lV_len i ks).trans hn) (by simp) rfl rm_f rm_l hcl hsl two ?_
  rintro r h1 ⟨v, rfl, z⟩
  refine xt_aload_n (n := 2) (pc' := pc + 1 + 6 * ks.length + 3 + 1) ⟨d3, rfl⟩ rfl ?_
  refine l_args (i := i) rfl rfl hL hi ks (pc + 1 + 6 * ks.length + 3 + 1) _ p2 hk ?_
  refine xt_cV (d := 24) (S := [zl v]) (as := lV xs i ks) (k := 5) (i := 0) (pc' := pc + 1 + 6 * ks.length + 3 + 1 + 6 * ks.length + 3) ⟨d4, rfl⟩ s2 rfl (by decide) ((lV_len i ks).trans hn) (by simp) rfl rm_f rm_l hcl hsl z ?_
  rintro r2 h2 ⟨rfl, jy⟩
  exact kk v h2 jy
theorem lg_cmp_rf (v : Int64) : lg_cmp v v = 0 := by
  unfold lg_cmp
  simp [Int64.lt_irrefl]
end LL
theorem sRL_21 : zVS RL 21 11 mX11_hall 1 := ⟨⟨wmk 221 (by decide +kernel) rfl, wmk 222 (by decide +kernel) rfl, wmk 223 (by decide +kernel) rfl, wmk 1 (by decide +kernel) rfl, wmk 224 (by decide +kernel) rfl⟩, ⟨by decide +kernel, by decide +kernel, by decide +kernel⟩, by decide, TX11, 7, rfl⟩
theorem sRL_25 : zVS RL 25 12 mX12_hall 1 := ⟨⟨wmk 1079 (by decide +kernel) rfl, wmk 1080 (by decide +kernel) rfl, wmk 1081 (by decide +kernel) rfl, wmk 13 (by decide +kernel) rfl, wmk 1082 (by decide +kernel) rfl⟩, ⟨by decide +kernel, by decide +kernel, by decide +kernel⟩, by decide, TX12, 24, rfl⟩
theorem cas0_k : lCaseB 208 [1] 21 25 = true := by decide +kernel
theorem cas0_b : zB cL_law 228 231 1381 (.if_icmp .eq 1153) 1153 := by decide +kernel
theorem cas0 {G : ZG} {L : Nat} {xs : Nat → Int32} {h : ZH} {cells slots i N : Nat} (jy : JY N h) (hN : N + 200 < 2 ^ 30) (hL : L ≤ 3072) (hi : i + 5 < L) (hcl : cells + 1 ≤ 601024) (hsl : slots + 6 ≤ 7293034) (kk : ∀ h2, JY (N + 200) h2 → lT G L xs 1381 (lL i) [] h2 (cells + 1) (slots + 6)) : lT G L xs 208 (lL i) [] h cells slots := by
  refine l_two (ks := [1]) (N := N) cas0_k (by decide) rfl sRL_21 sRL_25 hL hi (by omega) (by omega) (two_hall 16 N hN jy _) ?_
  intro v h2 j2
  exact xt_icmp_eq cas0_b (fun _ => xt_wide (by omega) (by omega) (kk h2 j2)) (fun z => absurd rfl z)
theorem sRL_26 : zVS RL 26 11 mX11_stone 2 := ⟨⟨wmk 398 (by decide +kernel) rfl, wmk 399 (by decide +kernel) rfl, wmk 400 (by decide +kernel) rfl, wmk 1 (by decide +kernel) rfl, wmk 401 (by decide +kernel) rfl⟩, ⟨by decide +kernel, by decide +kernel, by decide +kernel⟩, by decide, TX11, 7, rfl⟩
theorem sRL_30 : zVS RL 30 12 mX12_stone 2 := ⟨⟨wmk 1181 (by decide +kernel) rfl, wmk 1182 (by decide +kernel) rfl, wmk 1183 (by decide +kernel) rfl, wmk 13 (by decide +kernel) rfl, wmk 1184 (by decide +kernel) rfl⟩, ⟨by decide +kernel, by decide +kernel, by decide +kernel⟩, by decide, TX12, 24, rfl⟩
theorem cas1_k : lCaseB 233 [1, 2] 26 30 = true := by decide +kernel
theorem cas1_b : zB cL_law 265 268 1381 (.if_icmp .eq 1116) 1116 := by decide +kernel
theorem cas1 {G : ZG} {L : Nat} {xs : Nat → Int32} {h : ZH} {cells slots i N : Nat} (jy : JY N h) (hN : N + 200 < 2 ^ 30) (hL : L ≤ 3072) (hi : i + 5 < L) (hcl : cells + 1 ≤ 601024) (hsl : slots + 6 ≤ 7293034) (kk : ∀ h2, JY (N + 200) h2 → lT G L xs 1381 (lL i) [] h2 (cells + 1) (slots + 6)) : lT G L xs 233 (lL i) [] h cells slots := by
  refine l_two (ks := [1, 2]) (N := N) cas1_k (by decide) rfl sRL_26 sRL_30 hL hi (by omega) (by omega) (two_stone jy _ _) ?_
  intro v h2 j2
  exact xt_icmp_eq cas1_b (fun _ => xt_wide (by omega) (by omega) (kk h2 j2)) (fun z => absurd rfl z)
theorem sRL_31 : zVS RL 31 11 mX11_lays 2 := ⟨⟨wmk 414 (by decide +kernel) rfl, wmk 415 (by decide +kernel) rfl, wmk 416 (by decide +kernel) rfl, wmk 1 (by decide +kernel) rfl, wmk 417 (by decide +kernel) rfl⟩, ⟨by decide +kernel, by decide +kernel, by decide +kernel⟩, by decide, TX11, 7, rfl⟩
theorem sRL_34 : zVS RL 34 12 mX12_lays 2 := ⟨⟨wmk 1193 (by decide +kernel) rfl, wmk 1194 (by decide +kernel) rfl, wmk 1195 (by decide +kernel) rfl, wmk 13 (by decide +kernel) rfl, wmk 1196 (by decide +kernel) rfl⟩, ⟨by decide +kernel, by decide +kernel, by decide +kernel⟩, by decide, TX12, 24, rfl⟩
theorem cas2_k : lCaseB 270 [1, 2] 31 34 = true := by decide +kernel
theorem cas2_b : zB cL_law 302 305 1381 (.if_icmp .eq 1079) 1079 := by decide +kernel
theorem cas2 {G : ZG} {L : Nat} {xs : Nat → Int32} {h : ZH} {cells slots i N : Nat} (jy : JY N h) (hN : N + 200 < 2 ^ 30) (hL : L ≤ 3072) (hi : i + 5 < L) (hcl : cells + 1 ≤ 601024) (hsl : slots + 6 ≤ 7293034) (kk : ∀ h2, JY (N + 200) h2 → lT G L xs 1381 (lL i) [] h2 (cells + 1) (slots + 6)) : lT G L xs 270 (lL i) [] h cells slots := by
  refine l_two (ks := [1, 2]) (N := N) cas2_k (by decide) rfl sRL_31 sRL_34 hL hi (by omega) (by omega) (two_lays 17 N hN jy _ _) ?_
  intro v h2 j2
  exact xt_icmp_eq cas2_b (fun _ => xt_wide (by omega) (by omega) (kk h2 j2)) (fun z => absurd rfl z)
theorem sRL_35 : zVS RL 35 11 mX11_takes 1 := ⟨⟨wmk 422 (by decide +kernel) rfl, wmk 423 (by decide +kernel) rfl, wmk 424 (by decide +kernel) rfl, wmk 1 (by decide +kernel) rfl, wmk 425 (by decide +kernel) rfl⟩, ⟨by decide +kernel, by decide +kernel, by decide +kernel⟩, by decide, TX11, 7, rfl⟩
theorem sRL_38 : zVS RL 38 12 mX12_takes 1 := ⟨⟨wmk 1204 (by decide +kernel) rfl, wmk 1205 (by decide +kernel) rfl, wmk 1206 (by decide +kernel) rfl, wmk 13 (by decide +kernel) rfl, wmk 1207 (by decide +kernel) rfl⟩, ⟨by decide +kernel, by decide +kernel, by decide +kernel⟩, by decide, TX12, 24, rfl⟩
theorem cas3_k : lCaseB 307 [1] 35 38 = true := by decide +kernel
theorem cas3_b : zB cL_law 327 330 1381 (.if_icmp .eq 1054) 1054 := by decide +kernel
theorem cas3 {G : ZG} {L : Nat} {xs : Nat → Int32} {h : ZH} {cells slots i N : Nat} (jy : JY N h) (hN : N + 200 < 2 ^ 30) (hL : L ≤ 3072) (hi : i + 5 < L) (hcl : cells + 1 ≤ 601024) (hsl : slots + 6 ≤ 7293034) (kk : ∀ h2, JY (N + 200) h2 → lT G L xs 1381 (lL i) [] h2 (cells + 1) (slots + 6)) : lT G L xs 307 (lL i) [] h cells slots := by
  refine l_two (ks := [1]) (N := N) cas3_k (by decide) rfl sRL_35 sRL_38 hL hi (by omega) (by omega) (two_takes jy _) ?_
  intro v h2 j2
  exact xt_icmp_eq cas3_b (fun _ => xt_wide (by omega) (by omega) (kk h2 j2)) (fun z => absurd rfl z)
theorem sRL_39 : zVS RL 39 11 mX11_props 1 := ⟨⟨wmk 430 (by decide +kernel) rfl, wmk 431 (by decide +kernel) rfl, wmk 432 (by decide +kernel) rfl, wmk 1 (by decide +kernel) rfl, wmk 433 (by decide +kernel) rfl⟩, ⟨by decide +kernel, by decide +kernel, by decide +kernel⟩, by decide, TX11, 7, rfl⟩
theorem sRL_42 : zVS RL 42 12 mX12_props 1 := ⟨⟨wmk 1208 (by decide +kernel) rfl, wmk 1209 (by decide +kernel) rfl, wmk 1210 (by decide +kernel) rfl, wmk 13 (by decide +kernel) rfl, wmk 1211 (by decide +kernel) rfl⟩, ⟨by decide +kernel, by decide +kernel, by decide +kernel⟩, by decide, TX12, 24, rfl⟩
theorem cas4_k : lCaseB 332 [1] 39 42 = true := by decide +kernel
theorem cas4_b : zB cL_law 352 355 1381 (.if_icmp .eq 1029) 1029 := by decide +kernel
theorem cas4 {G : ZG} {L : Nat} {xs : Nat → Int32} {h : ZH} {cells slots i N : Nat} (jy : JY N h) (hN : N + 200 < 2 ^ 30) (hL : L ≤ 3072) (hi : i + 5 < L) (hcl : cells + 1 ≤ 601024) (hsl : slots + 6 ≤ 7293034) (kk : ∀ h2, JY (N + 200) h2 → lT G L xs 1381 (lL i) [] h2 (cells + 1) (slots + 6)) : lT G L xs 332 (lL i) [] h cells slots := by
  refine l_two (ks := [1]) (N := N) cas4_k (by decide) rfl sRL_39 sRL_42 hL hi (by omega) (by omega) (two_props hN jy _) ?_
  intro v h2 j2
  exact xt_icmp_eq cas4_b (fun _ => xt_wide (by omega) (by omega) (kk h2 j2)) (fun z => absurd rfl z)
theorem sRL_43 : zVS RL 43 11 mX11_falls 2 := ⟨⟨wmk 434 (by decide +kernel) rfl, wmk 435 (by decide +kernel) rfl, wmk 436 (by decide +kernel) rfl, wmk 1 (by decide +kernel) rfl, wmk 437 (by decide +kernel) rfl⟩, ⟨by decide +kernel, by decide +kernel, by decide +kernel⟩, by decide, TX11, 7, rfl⟩
theorem sRL_46 : zVS RL 46 12 mX12_falls 2 := ⟨⟨wmk 1212 (by decide +kernel) rfl, wmk 1213 (by decide +kernel) rfl, wmk 1214 (by decide +kernel) rfl, wmk 13 (by decide +kernel) rfl, wmk 1215 (by decide +kernel) rfl⟩, ⟨by decide +kernel, by decide +kernel, by decide +kernel⟩, by decide, TX12, 24, rfl⟩
theorem cas5_k : lCaseB 357 [1, 2] 43 46 = true := by decide +kernel
theorem cas5_b : zB cL_law 389 392 1381 (.if_icmp .eq 992) 992 := by decide +kernel
theorem cas5 {G : ZG} {L : Nat} {xs : Nat → Int32} {h : ZH} {cells slots i N : Nat} (jy : JY N h) (hN : N + 200 < 2 ^ 30) (hL : L ≤ 3072) (hi : i + 5 < L) (hcl : cells + 1 ≤ 601024) (hsl : slots + 6 ≤ 7293034) (kk : ∀ h2, JY (N + 200) h2 → lT G L xs 1381 (lL i) [] h2 (cells + 1) (slots + 6)) : lT G L xs 357 (lL i) [] h cells slots := by
  refine l_two (ks := [1, 2]) (N := N) cas5_k (by decide) rfl sRL_43 sRL_46 hL hi (by omega) (by omega) (two_falls jy _ _) ?_
  intro v h2 j2
  exact xt_icmp_eq cas5_b (fun _ => xt_wide (by omega) (by omega) (kk h2 j2)) (fun z => absurd rfl z)
theorem sRL_47 : zVS RL 47 11 mX11_corners 1 := ⟨⟨wmk 453 (by decide +kernel) rfl, wmk 454 (by decide +kernel) rfl, wmk 455 (by decide +kernel) rfl, wmk 1 (by decide +kernel) rfl, wmk 456 (by decide +kernel) rfl⟩, ⟨by decide +kernel, by decide +kernel, by decide +kernel⟩, by decide, TX11, 7, rfl⟩
theorem sRL_50 : zVS RL 50 12 mX12_corners 1 := ⟨⟨wmk 1216 (by decide +kernel) rfl, wmk 1217 (by decide +kernel) rfl, wmk 1218 (by decide +kernel) rfl, wmk 13 (by decide +kernel) rfl, wmk 1219 (by decide +kernel) rfl⟩, ⟨by decide +kernel, by decide +kernel, by decide +kernel⟩, by decide, TX12, 24, rfl⟩
theorem cas6_k : lCaseB 394 [1] 47 50 = true := by decide +kernel
theorem cas6_b : zB cL_law 414 417 1381 (.if_icmp .eq 967) 967 := by decide +kernel
theorem cas6 {G : ZG} {L : Nat} {xs : Nat → Int32} {h : ZH} {cells slots i N : Nat} (jy : JY N h) (hN : N + 200 < 2 ^ 30) (hL : L ≤ 3072) (hi : i + 5 < L) (hcl : cells + 1 ≤ 601024) (hsl : slots + 6 ≤ 7293034) (kk : ∀ h2, JY (N + 200) h2 → lT G L xs 1381 (lL i) [] h2 (cells + 1) (slots + 6)) : lT G L xs 394 (lL i) [] h cells slots := by
  refine l_two (ks := [1]) (N := N) cas6_k (by decide) rfl sRL_47 sRL_50 hL hi (by omega) (by omega) (two_corners jy _) ?_
  intro v h2 j2
  exact xt_icmp_eq cas6_b (fun _ => xt_wide (by omega) (by omega) (kk h2 j2)) (fun z => absurd rfl z)
theorem sRL_51 : zVS RL 51 11 mX11_worst 0 := ⟨⟨wmk 470 (by decide +kernel) rfl, wmk 471 (by decide +kernel) rfl, wmk 472 (by decide +kernel) rfl, wmk 1 (by decide +kernel) rfl, wmk 473 (by decide +kernel) rfl⟩, ⟨by decide +kernel, by decide +kernel, by decide +kernel⟩, by decide, TX11, 7, rfl⟩
theorem sRL_55 : zVS RL 55 12 mX12_worst 0 := ⟨⟨wmk 1228 (by decide +kernel) rfl, wmk 1229 (by decide +kernel) rfl, wmk 1230 (by decide +kernel) rfl, wmk 13 (by decide +kernel) rfl, wmk 1231 (by decide +kernel) rfl⟩, ⟨by decide +kernel, by decide +kernel, by decide +kernel⟩, by decide, TX12, 24, rfl⟩
theorem cas7_k : lCaseB 419 [] 51 55 = true := by decide +kernel
theorem cas7_b : zB cL_law 427 430 1381 (.if_icmp .eq 954) 954 := by decide +kernel
theorem cas7 {G : ZG} {L : Nat} {xs : Nat → Int32} {h : ZH} {cells slots i N : Nat} (jy : JY N h) (hN : N + 200 < 2 ^ 30) (hL : L ≤ 3072) (hi : i + 5 < L) (hcl : cells + 1 ≤ 601024) (hsl : slots + 6 ≤ 7293034) (kk : ∀ h2, JY (N + 200) h2 → lT G L xs 1381 (lL i) [] h2 (cells + 1) (slots + 6)) : lT G L xs 419 (lL i) [] h cells slots := by
  refine l_two (ks := []) (N := N) cas7_k (by decide) rfl sRL_51 sRL_55 hL hi (by omega) (by omega) (two_worst jy) ?_
  intro v h2 j2
  exact xt_icmp_eq cas7_b (fun _ => xt_wide (by omega) (by omega) (kk h2 j2)) (fun z => absurd rfl z)
theorem sRL_56 : zVS RL 56 11 mX11_together 2 := ⟨⟨wmk 483 (by decide +kernel) rfl, wmk 484 (by decide +kernel) rfl, wmk 485 (by decide +kernel) rfl, wmk 1 (by decide +kernel) rfl, wmk 486 (by decide +kernel) rfl⟩, ⟨by decide +kernel, by decide +kernel, by decide +kernel⟩, by decide, TX11, 7, rfl⟩
theorem sRL_59 : zVS RL 59 12 mX12_together 2 := ⟨⟨wmk 1232 (by decide +kernel) rfl, wmk 1233 (by decide +kernel) rfl, wmk 1234 (by decide +kernel) rfl, wmk 13 (by decide +kernel) rfl, wmk 1235 (by decide +kernel) rfl⟩, ⟨by decide +kernel, by decide +kernel, by decide +kernel⟩, by decide, TX12, 24, rfl⟩
theorem cas8_k : lCaseB 432 [1, 2] 56 59 = true := by decide +kernel
theorem cas8_b : zB cL_law 464 467 1381 (.if_icmp .eq 917) 917 := by decide +kernel
theorem cas8 {G : ZG} {L : Nat} {xs : Nat → Int32} {h : ZH} {cells slots i N : Nat} (jy : JY N h) (hN : N + 200 < 2 ^ 30) (hL : L ≤ 3072) (hi : i + 5 < L) (hcl : cells + 1 ≤ 601024) (hsl : slots + 6 ≤ 7293034) (kk : ∀ h2, JY (N + 200) h2 → lT G L xs 1381 (lL i) [] h2 (cells + 1) (slots + 6)) : lT G L xs 432 (lL i) [] h cells slots := by
  refine l_two (ks := [1, 2]) (N := N) cas8_k (by decide) rfl sRL_56 sRL_59 hL hi (by omega) (by omega) (two_together jy _ _) ?_
  intro v h2 j2
  exact xt_icmp_eq cas8_b (fun _ => xt_wide (by omega) (by omega) (kk h2 j2)) (fun z => absurd rfl z)
theorem sRL_60 : zVS RL 60 11 mX11_cut 1 := ⟨⟨wmk 495 (by decide +kernel) rfl, wmk 496 (by decide +kernel) rfl, wmk 497 (by decide +kernel) rfl, wmk 1 (by decide +kernel) rfl, wmk 498 (by decide +kernel) rfl⟩, ⟨by decide +kernel, by decide +kernel, by decide +kernel⟩, by decide, TX11, 7, rfl⟩
theorem sRL_63 : zVS RL 63 12 mX12_cut 1 := ⟨⟨wmk 1236 (by decide +kernel) rfl, wmk 1237 (by decide +kernel) rfl, wmk 1238 (by decide +kernel) rfl, wmk 13 (by decide +kernel) rfl, wmk 1239 (by decide +kernel) rfl⟩, ⟨by decide +kernel, by decide +kernel, by decide +kernel⟩, by decide, TX12, 24, rfl⟩
theorem cas9_k : lCaseB 469 [1] 60 63 = true := by decide +kernel
theorem cas9_b : zB cL_law 489 492 1381 (.if_icmp .eq 892) 892 := by decide +kernel
theorem cas9 {G : ZG} {L : Nat} {xs : Nat → Int32} {h : ZH} {cells slots i N : Nat} (jy : JY N h) (hN : N + 200 < 2 ^ 30) (hL : L ≤ 3072) (hi : i + 5 < L) (hcl : cells + 1 ≤ 601024) (hsl : slots + 6 ≤ 7293034) (kk : ∀ h2, JY (N + 200) h2 → lT G L xs 1381 (lL i) [] h2 (cells + 1) (slots + 6)) : lT G L xs 469 (lL i) [] h cells slots := by
  refine l_two (ks := [1]) (N := N) cas9_k (by decide) rfl sRL_60 sRL_63 hL hi (by omega) (by omega) (two_cut jy _) ?_
  intro v h2 j2
  exact xt_icmp_eq cas9_b (fun _ => xt_wide (by omega) (by omega) (kk h2 j2)) (fun z => absurd rfl z)
theorem sRL_64 : zVS RL 64 11 mX11_toGround 0 := ⟨⟨wmk 506 (by decide +kernel) rfl, wmk 507 (by decide +kernel) rfl, wmk 508 (by decide +kernel) rfl, wmk 1 (by decide +kernel) rfl, wmk 509 (by decide +kernel) rfl⟩, ⟨by decide +kernel, by decide +kernel, by decide +kernel⟩, by decide, TX11, 7, rfl⟩
theorem sRL_67 : zVS RL 67 12 mX12_toGround 0 := ⟨⟨wmk 1240 (by decide +kernel) rfl, wmk 1241 (by decide +kernel) rfl, wmk 1242 (by decide +kernel) rfl, wmk 13 (by decide +kernel) rfl, wmk 1243 (by decide +kernel) rfl⟩, ⟨by decide +kernel, by decide +kernel, by decide +kernel⟩, by decide, TX12, 24, rfl⟩
theorem cas10_k : lCaseB 494 [] 64 67 = true := by decide +kernel
theorem cas10_b : zB cL_law 502 505 1381 (.if_icmp .eq 879) 879 := by decide +kernel
theorem cas10 {G : ZG} {L : Nat} {xs : Nat → Int32} {h : ZH} {cells slots i N : Nat} (jy : JY N h) (hN : N + 200 < 2 ^ 30) (hL : L ≤ 3072) (hi : i + 5 < L) (hcl : cells + 1 ≤ 601024) (hsl : slots + 6 ≤ 7293034) (kk : ∀ h2, JY (N + 200) h2 → lT G L xs 1381 (lL i) [] h2 (cells + 1) (slots + 6)) : lT G L xs 494 (lL i) [] h cells slots := by
  refine l_two (ks := []) (N := N) cas10_k (by decide) rfl sRL_64 sRL_67 hL hi (by omega) (by omega) (two_toGround jy) ?_
  intro v h2 j2
  exact xt_icmp_eq cas10_b (fun _ => xt_wide (by omega) (by omega) (kk h2 j2)) (fun z => absurd rfl z)
theorem sRL_68 : zVS RL 68 11 mX11_longest 1 := ⟨⟨wmk 514 (by decide +kernel) rfl, wmk 515 (by decide +kernel) rfl, wmk 516 (by decide +kernel) rfl, wmk 1 (by decide +kernel) rfl, wmk 517 (by decide +kernel) rfl⟩, ⟨by decide +kernel, by decide +kernel, by decide +kernel⟩, by decide, TX11, 7, rfl⟩
theorem sRL_71 : zVS RL 71 12 mX12_longest 1 := ⟨⟨wmk 1244 (by decide +kernel) rfl, wmk 1245 (by decide +kernel) rfl, wmk 1246 (by decide +kernel) rfl, wmk 13 (by decide +kernel) rfl, wmk 1247 (by decide +kernel) rfl⟩, ⟨by decide +kernel, by decide +kernel, by decide +kernel⟩, by decide, TX12, 24, rfl⟩
theorem cas11_k : lCaseB 507 [1] 68 71 = true := by decide +kernel
theorem cas11_b : zB cL_law 527 530 1381 (.if_icmp .eq 854) 854 := by decide +kernel
theorem cas11 {G : ZG} {L : Nat} {xs : Nat → Int32} {h : ZH} {cells slots i N : Nat} (jy : JY N h) (hN : N + 200 < 2 ^ 30) (hL : L ≤ 3072) (hi : i + 5 < L) (hcl : cells + 1 ≤ 601024) (hsl : slots + 6 ≤ 7293034) (kk : ∀ h2, JY (N + 200) h2 → lT G L xs 1381 (lL i) [] h2 (cells + 1) (slots + 6)) : lT G L xs 507 (lL i) [] h cells slots := by
  refine l_two (ks := [1]) (N := N) cas11_k (by decide) rfl sRL_68 sRL_71 hL hi (by omega) (by omega) (two_longest jy _) ?_
  intro v h2 j2
  exact xt_icmp_eq cas11_b (fun _ => xt_wide (by omega) (by omega) (kk h2 j2)) (fun z => absurd rfl z)
theorem sRL_72 : zVS RL 72 11 mX11_game 1 := ⟨⟨wmk 537 (by decide +kernel) rfl, wmk 538 (by decide +kernel) rfl, wmk 539 (by decide +kernel) rfl, wmk 1 (by decide +kernel) rfl, wmk 540 (by decide +kernel) rfl⟩, ⟨by decide +kernel, by decide +kernel, by decide +kernel⟩, by decide, TX11, 7, rfl⟩
theorem sRL_75 : zVS RL 75 12 mX12_game 1 := ⟨⟨wmk 1259 (by decide +kernel) rfl, wmk 1260 (by decide +kernel) rfl, wmk 1261 (by decide +kernel) rfl, wmk 13 (by decide +kernel) rfl, wmk 1262 (by decide +kernel) rfl⟩, ⟨by decide +kernel, by decide +kernel, by decide +kernel⟩, by decide, TX12, 24, rfl⟩
theorem cas12_k : lCaseB 532 [1] 72 75 = true := by decide +kernel
theorem cas12_b : zB cL_law 552 555 1381 (.if_icmp .eq 829) 829 := by decide +kernel
theorem cas12 {G : ZG} {L : Nat} {xs : Nat → Int32} {h : ZH} {cells slots i N : Nat} (jy : JY N h) (hN : N + 200 < 2 ^ 30) (hL : L ≤ 3072) (hi : i + 5 < L) (hcl : cells + 1 ≤ 601024) (hsl : slots + 6 ≤ 7293034) (kk : ∀ h2, JY (N + 200) h2 → lT G L xs 1381 (lL i) [] h2 (cells + 1) (slots + 6)) : lT G L xs 532 (lL i) [] h cells slots := by
  refine l_two (ks := [1]) (N := N) cas12_k (by decide) rfl sRL_72 sRL_75 hL hi (by omega) (by omega) (two_game jy _) ?_
  intro v h2 j2
  exact xt_icmp_eq cas12_b (fun _ => xt_wide (by omega) (by omega) (kk h2 j2)) (fun z => absurd rfl z)
theorem sRL_76 : zVS RL 76 11 mX11_bombs 3 := ⟨⟨wmk 549 (by decide +kernel) rfl, wmk 550 (by decide +kernel) rfl, wmk 551 (by decide +kernel) rfl, wmk 1 (by decide +kernel) rfl, wmk 552 (by decide +kernel) rfl⟩, ⟨by decide +kernel, by decide +kernel, by decide +kernel⟩, by decide, TX11, 7, rfl⟩
theorem sRL_80 : zVS RL 80 12 mX12_bombs 3 := ⟨⟨wmk 1263 (by decide +kernel) rfl, wmk 1264 (by decide +kernel) rfl, wmk 1265 (by decide +kernel) rfl, wmk 13 (by decide +kernel) rfl, wmk 1266 (by decide +kernel) rfl⟩, ⟨by decide +kernel, by decide +kernel, by decide +kernel⟩, by decide, TX12, 24, rfl⟩
theorem cas13_k : lCaseB 557 [1, 2, 3] 76 80 = true := by decide +kernel
theorem cas13_a : zD cL_law 601 602 .lcmp 1 := by decide +kernel
theorem cas13_b : zB cL_law 602 605 1381 (.ifCond .eq 779) 779 := by decide +kernel
theorem cas13 {G : ZG} {L : Nat} {xs : Nat → Int32} {h : ZH} {cells slots i N : Nat} (jy : JY N h) (hN : N + 200 < 2 ^ 30) (hL : L ≤ 3072) (hi : i + 5 < L) (hcl : cells + 1 ≤ 601024) (hsl : slots + 6 ≤ 7293034) (kk : ∀ h2, JY (N + 200) h2 → lT G L xs 1381 (lL i) [] h2 (cells + 1) (slots + 6)) : lT G L xs 557 (lL i) [] h cells slots := by
  refine l_twoL (ks := [1, 2, 3]) (N := N) cas13_k (by decide) rfl sRL_76 sRL_80 hL hi (by omega) (by omega) (two_bombs jy _ _ _) ?_
  intro v h2 j2
  refine xt_lcmp cas13_a ?_
  rw [lg_cmp_rf]
  exact xt_if_eq cas13_b (fun _ => xt_wide (by omega) (by omega) (kk h2 j2)) (fun z => absurd rfl z)
theorem sRL_81 : zVS RL 81 11 mX11_mostLoad 1 := ⟨⟨wmk 565 (by decide +kernel) rfl, wmk 566 (by decide +kernel) rfl, wmk 567 (by decide +kernel) rfl, wmk 1 (by decide +kernel) rfl, wmk 568 (by decide +kernel) rfl⟩, ⟨by decide +kernel, by decide +kernel, by decide +kernel⟩, by decide, TX11, 7, rfl⟩
theorem sRL_84 : zVS RL 84 12 mX12_mostLoad 1 := ⟨⟨wmk 1274 (by decide +kernel) rfl, wmk 1275 (by decide +kernel) rfl, wmk 1276 (by decide +kernel) rfl, wmk 13 (by decide +kernel) rfl, wmk 1277 (by decide +kernel) rfl⟩, ⟨by decide +kernel, by decide +kernel, by decide +kernel⟩, by decide, TX12, 24, rfl⟩
theorem cas14_k : lCaseB 607 [1] 81 84 = true := by decide +kernel
theorem cas14_b : zB cL_law 627 630 1381 (.if_icmp .eq 754) 754 := by decide +kernel
theorem cas14 {G : ZG} {L : Nat} {xs : Nat → Int32} {h : ZH} {cells slots i N : Nat} (jy : JY N h) (hN : N + 200 < 2 ^ 30) (hL : L ≤ 3072) (hi : i + 5 < L) (hcl : cells + 1 ≤ 601024) (hsl : slots + 6 ≤ 7293034) (kk : ∀ h2, JY (N + 200) h2 → lT G L xs 1381 (lL i) [] h2 (cells + 1) (slots + 6)) : lT G L xs 607 (lL i) [] h cells slots := by
  refine l_two (ks := [1]) (N := N) cas14_k (by decide) rfl sRL_81 sRL_84 hL hi (by omega) (by omega) (two_mostLoad jy _) ?_
  intro v h2 j2
  exact xt_icmp_eq cas14_b (fun _ => xt_wide (by omega) (by omega) (kk h2 j2)) (fun z => absurd rfl z)
theorem sRL_85 : zVS RL 85 11 mX11_which 2 := ⟨⟨wmk 575 (by decide +kernel) rfl, wmk 576 (by decide +kernel) rfl, wmk 577 (by decide +kernel) rfl, wmk 1 (by decide +kernel) rfl, wmk 578 (by decide +kernel) rfl⟩, ⟨by decide +kernel, by decide +kernel, by decide +kernel⟩, by decide, TX11, 7, rfl⟩
theorem sRL_88 : zVS RL 88 12 mX12_which 2 := ⟨⟨wmk 1278 (by decide +kernel) rfl, wmk 1279 (by decide +kernel) rfl, wmk 1280 (by decide +kernel) rfl, wmk 13 (by decide +kernel) rfl, wmk 1281 (by decide +kernel) rfl⟩, ⟨by decide +kernel, by decide +kernel, by decide +kernel⟩, by decide, TX12, 24, rfl⟩
theorem cas15_k : lCaseB 632 [1, 2] 85 88 = true := by decide +kernel
theorem cas15_b : zB cL_law 664 667 1381 (.if_icmp .eq 717) 717 := by decide +kernel
theorem cas15 {G : ZG} {L : Nat} {xs : Nat → Int32} {h : ZH} {cells slots i N : Nat} (jy : JY N h) (hN : N + 200 < 2 ^ 30) (hL : L ≤ 3072) (hi : i + 5 < L) (hcl : cells + 1 ≤ 601024) (hsl : slots + 6 ≤ 7293034) (kk : ∀ h2, JY (N + 200) h2 → lT G L xs 1381 (lL i) [] h2 (cells + 1) (slots + 6)) : lT G L xs 632 (lL i) [] h cells slots := by
  refine l_two (ks := [1, 2]) (N := N) cas15_k (by decide) rfl sRL_85 sRL_88 hL hi (by omega) (by omega) (two_which jy _ _) ?_
  intro v h2 j2
  exact xt_icmp_eq cas15_b (fun _ => xt_wide (by omega) (by omega) (kk h2 j2)) (fun z => absurd rfl z)
theorem sRL_89 : zVS RL 89 11 mX11_tapNext 1 := ⟨⟨wmk 598 (by decide +kernel) rfl, wmk 599 (by decide +kernel) rfl, wmk 600 (by decide +kernel) rfl, wmk 1 (by decide +kernel) rfl, wmk 601 (by decide +kernel) rfl⟩, ⟨by decide +kernel, by decide +kernel, by decide +kernel⟩, by decide, TX11, 7, rfl⟩
theorem sRL_92 : zVS RL 92 12 mX12_tapNext 1 := ⟨⟨wmk 1294 (by decide +kernel) rfl, wmk 1295 (by decide +kernel) rfl, wmk 1296 (by decide +kernel) rfl, wmk 13 (by decide +kernel) rfl, wmk 1297 (by decide +kernel) rfl⟩, ⟨by decide +kernel, by decide +kernel, by decide +kernel⟩, by decide, TX12, 24, rfl⟩
theorem cas16_k : lCaseB 669 [1] 89 92 = true := by decide +kernel
theorem cas16_b : zB cL_law 689 692 1381 (.if_icmp .eq 692) 692 := by decide +kernel
theorem cas16 {G : ZG} {L : Nat} {xs : Nat → Int32} {h : ZH} {cells slots i N : Nat} (jy : JY N h) (hN : N + 200 < 2 ^ 30) (hL : L ≤ 3072) (hi : i + 5 < L) (hcl : cells + 1 ≤ 601024) (hsl : slots + 6 ≤ 7293034) (kk : ∀ h2, JY (N + 200) h2 → lT G L xs 1381 (lL i) [] h2 (cells + 1) (slots + 6)) : lT G L xs 669 (lL i) [] h cells slots := by
  refine l_two (ks := [1]) (N := N) cas16_k (by decide) rfl sRL_89 sRL_92 hL hi (by omega) (by omega) (two_tapNext jy _) ?_
  intro v h2 j2
  exact xt_icmp_eq cas16_b (fun _ => xt_wide (by omega) (by omega) (kk h2 j2)) (fun z => absurd rfl z)
theorem sRL_93 : zVS RL 93 11 mX11_propsWanted 0 := ⟨⟨wmk 619 (by decide +kernel) rfl, wmk 620 (by decide +kernel) rfl, wmk 621 (by decide +kernel) rfl, wmk 1 (by decide +kernel) rfl, wmk 622 (by decide +kernel) rfl⟩, ⟨by decide +kernel, by decide +kernel, by decide +kernel⟩, by decide, TX11, 7, rfl⟩
theorem sRL_96 : zVS RL 96 12 mX12_propsWanted 0 := ⟨⟨wmk 1302 (by decide +kernel) rfl, wmk 1303 (by decide +kernel) rfl, wmk 1304 (by decide +kernel) rfl, wmk 13 (by decide +kernel) rfl, wmk 1305 (by decide +kernel) rfl⟩, ⟨by decide +kernel, by decide +kernel, by decide +kernel⟩, by decide, TX12, 24, rfl⟩
theorem cas17_k : lCaseB 694 [] 93 96 = true := by decide +kernel
theorem cas17_b : zB cL_law 702 705 1381 (.if_icmp .eq 679) 679 := by decide +kernel
theorem cas17 {G : ZG} {L : Nat} {xs : Nat → Int32} {h : ZH} {cells slots i N : Nat} (jy : JY N h) (hN : N + 200 < 2 ^ 30) (hL : L ≤ 3072) (hi : i + 5 < L) (hcl : cells + 1 ≤ 601024) (hsl : slots + 6 ≤ 7293034) (kk : ∀ h2, JY (N + 200) h2 → lT G L xs 1381 (lL i) [] h2 (cells + 1) (slots + 6)) : lT G L xs 694 (lL i) [] h cells slots := by
  refine l_two (ks := []) (N := N) cas17_k (by decide) rfl sRL_93 sRL_96 hL hi (by omega) (by omega) (two_propsWanted jy) ?_
  intro v h2 j2
  exact xt_icmp_eq cas17_b (fun _ => xt_wide (by omega) (by omega) (kk h2 j2)) (fun z => absurd rfl z)
theorem sRL_97 : zVS RL 97 11 mX11_more 1 := ⟨⟨wmk 632 (by decide +kernel) rfl, wmk 633 (by decide +kernel) rfl, wmk 634 (by decide +kernel) rfl, wmk 1 (by decide +kernel) rfl, wmk 635 (by decide +kernel) rfl⟩, ⟨by decide +kernel, by decide +kernel, by decide +kernel⟩, by decide, TX11, 7, rfl⟩
theorem sRL_100 : zVS RL 100 12 mX12_more 1 := ⟨⟨wmk 1306 (by decide +kernel) rfl, wmk 1307 (by decide +kernel) rfl, wmk 1308 (by decide +kernel) rfl, wmk 13 (by decide +kernel) rfl, wmk 1309 (by decide +kernel) rfl⟩, ⟨by decide +kernel, by decide +kernel, by decide +kernel⟩, by decide, TX12, 24, rfl⟩
theorem cas18_k : lCaseB 707 [1] 97 100 = true := by decide +kernel
theorem cas18_b : zB cL_law 727 730 1381 (.if_icmp .eq 654) 654 := by decide +kernel
theorem cas18 {G : ZG} {L : Nat} {xs : Nat → Int32} {h : ZH} {cells slots i N : Nat} (jy : JY N h) (hN : N + 200 < 2 ^ 30) (hL : L ≤ 3072) (hi : i + 5 < L) (hcl : cells + 1 ≤ 601024) (hsl : slots + 6 ≤ 7293034) (kk : ∀ h2, JY (N + 200) h2 → lT G L xs 1381 (lL i) [] h2 (cells + 1) (slots + 6)) : lT G L xs 707 (lL i) [] h cells slots := by
  refine l_two (ks := [1]) (N := N) cas18_k (by decide) rfl sRL_97 sRL_100 hL hi (by omega) (by omega) (two_more jy _) ?_
  intro v h2 j2
  exact xt_icmp_eq cas18_b (fun _ => xt_wide (by omega) (by omega) (kk h2 j2)) (fun z => absurd rfl z)
theorem sRL_101 : zVS RL 101 11 mX11_lean 1 := ⟨⟨wmk 640 (by decide +kernel) rfl, wmk 641 (by decide +kernel) rfl, wmk 642 (by decide +kernel) rfl, wmk 1 (by decide +kernel) rfl, wmk 643 (by decide +kernel) rfl⟩, ⟨by decide +kernel, by decide +kernel, by decide +kernel⟩, by decide, TX11, 7, rfl⟩
theorem sRL_104 : zVS RL 104 12 mX12_lean 1 := ⟨⟨wmk 1310 (by decide +kernel) rfl, wmk 1311 (by decide +kernel) rfl, wmk 1312 (by decide +kernel) rfl, wmk 13 (by decide +kernel) rfl, wmk 1313 (by decide +kernel) rfl⟩, ⟨by decide +kernel, by decide +kernel, by decide +kernel⟩, by decide, TX12, 24, rfl⟩
theorem cas19_k : lCaseB 732 [1] 101 104 = true := by decide +kernel
theorem cas19_b : zB cL_law 752 755 1381 (.if_icmp .eq 629) 629 := by decide +kernel
theorem cas19 {G : ZG} {L : Nat} {xs : Nat → Int32} {h : ZH} {cells slots i N : Nat} (jy : JY N h) (hN : N + 200 < 2 ^ 30) (hL : L ≤ 3072) (hi : i + 5 < L) (hcl : cells + 1 ≤ 601024) (hsl : slots + 6 ≤ 7293034) (kk : ∀ h2, JY (N + 200) h2 → lT G L xs 1381 (lL i) [] h2 (cells + 1) (slots + 6)) : lT G L xs 732 (lL i) [] h cells slots := by
  refine l_two (ks := [1]) (N := N) cas19_k (by decide) rfl sRL_101 sRL_104 hL hi (by omega) (by omega) (two_lean jy _) ?_
  intro v h2 j2
  exact xt_icmp_eq cas19_b (fun _ => xt_wide (by omega) (by omega) (kk h2 j2)) (fun z => absurd rfl z)
theorem sRL_105 : zVS RL 105 11 mX11_tins 2 := ⟨⟨wmk 661 (by decide +kernel) rfl, wmk 662 (by decide +kernel) rfl, wmk 663 (by decide +kernel) rfl, wmk 1 (by decide +kernel) rfl, wmk 664 (by decide +kernel) rfl⟩, ⟨by decide +kernel, by decide +kernel, by decide +kernel⟩, by decide, TX11, 7, rfl⟩
theorem sRL_108 : zVS RL 108 12 mX12_tins 2 := ⟨⟨wmk 1319 (by decide +kernel) rfl, wmk 1320 (by decide +kernel) rfl, wmk 1321 (by decide +kernel) rfl, wmk 13 (by decide +kernel) rfl, wmk 1322 (by decide +kernel) rfl⟩, ⟨by decide +kernel, by decide +kernel, by decide +kernel⟩, by decide, TX12, 24, rfl⟩
theorem cas20_k : lCaseB 757 [1, 2] 105 108 = true := by decide +kernel
theorem cas20_b : zB cL_law 789 792 1381 (.if_icmp .eq 592) 592 := by decide +kernel
theorem cas20 {G : ZG} {L : Nat} {xs : Nat → Int32} {h : ZH} {cells slots i N : Nat} (jy : JY N h) (hN : N + 200 < 2 ^ 30) (hL : L ≤ 3072) (hi : i + 5 < L) (hcl : cells + 1 ≤ 601024) (hsl : slots + 6 ≤ 7293034) (kk : ∀ h2, JY (N + 200) h2 → lT G L xs 1381 (lL i) [] h2 (cells + 1) (slots + 6)) : lT G L xs 757 (lL i) [] h cells slots := by
  refine l_two (ks := [1, 2]) (N := N) cas20_k (by decide) rfl sRL_105 sRL_108 hL hi (by omega) (by omega) (two_tins jy _ _) ?_
  intro v h2 j2
  exact xt_icmp_eq cas20_b (fun _ => xt_wide (by omega) (by omega) (kk h2 j2)) (fun z => absurd rfl z)
theorem sRL_109 : zVS RL 109 11 mX11_forged 1 := ⟨⟨wmk 685 (by decide +kernel) rfl, wmk 686 (by decide +kernel) rfl, wmk 687 (by decide +kernel) rfl, wmk 1 (by decide +kernel) rfl, wmk 688 (by decide +kernel) rfl⟩, ⟨by decide +kernel, by decide +kernel, by decide +kernel⟩, by decide, TX11, 7, rfl⟩
theorem sRL_112 : zVS RL 112 12 mX12_forged 1 := ⟨⟨wmk 1335 (by decide +kernel) rfl, wmk 1336 (by decide +kernel) rfl, wmk 1337 (by decide +kernel) rfl, wmk 13 (by decide +kernel) rfl, wmk 1338 (by decide +kernel) rfl⟩, ⟨by decide +kernel, by decide +kernel, by decide +kernel⟩, by decide, TX12, 24, rfl⟩
theorem cas21_k : lCaseB 794 [1] 109 112 = true := by decide +kernel
theorem cas21_b : zB cL_law 814 817 1381 (.if_icmp .eq 567) 567 := by decide +kernel
theorem cas21 {G : ZG} {L : Nat} {xs : Nat → Int32} {h : ZH} {cells slots i N : Nat} (jy : JY N h) (hN : N + 200 < 2 ^ 30) (hL : L ≤ 3072) (hi : i + 5 < L) (hcl : cells + 1 ≤ 601024) (hsl : slots + 6 ≤ 7293034) (kk : ∀ h2, JY (N + 200) h2 → lT G L xs 1381 (lL i) [] h2 (cells + 1) (slots + 6)) : lT G L xs 794 (lL i) [] h cells slots := by
  refine l_two (ks := [1]) (N := N) cas21_k (by decide) rfl sRL_109 sRL_112 hL hi (by omega) (by omega) (two_forged jy _) ?_
  intro v h2 j2
  exact xt_icmp_eq cas21_b (fun _ => xt_wide (by omega) (by omega) (kk h2 j2)) (fun z => absurd rfl z)
theorem sRL_113 : zVS RL 113 11 mX11_judge 1 := ⟨⟨wmk 697 (by decide +kernel) rfl, wmk 698 (by decide +kernel) rfl, wmk 699 (by decide +kernel) rfl, wmk 1 (by decide +kernel) rfl, wmk 700 (by decide +kernel) rfl⟩, ⟨by decide +kernel, by decide +kernel, by decide +kernel⟩, by decide, TX11, 7, rfl⟩
theorem sRL_116 : zVS RL 116 12 mX12_judge 1 := ⟨⟨wmk 1339 (by decide +kernel) rfl, wmk 1340 (by decide +kernel) rfl, wmk 1341 (by decide +kernel) rfl, wmk 13 (by decide +kernel) rfl, wmk 1342 (by decide +kernel) rfl⟩, ⟨by decide +kernel, by decide +kernel, by decide +kernel⟩, by decide, TX12, 24, rfl⟩
theorem cas22_k : lCaseB 819 [1] 113 116 = true := by decide +kernel
theorem cas22_b : zB cL_law 839 842 1381 (.if_icmp .eq 542) 542 := by decide +kernel
theorem cas22 {G : ZG} {L : Nat} {xs : Nat → Int32} {h : ZH} {cells slots i N : Nat} (jy : JY N h) (hN : N + 200 < 2 ^ 30) (hL : L ≤ 3072) (hi : i + 5 < L) (hcl : cells + 1 ≤ 601024) (hsl : slots + 6 ≤ 7293034) (kk : ∀ h2, JY (N + 200) h2 → lT G L xs 1381 (lL i) [] h2 (cells + 1) (slots + 6)) : lT G L xs 819 (lL i) [] h cells slots := by
  refine l_two (ks := [1]) (N := N) cas22_k (by decide) rfl sRL_113 sRL_116 hL hi (by omega) (by omega) (two_judge jy _) ?_
  intro v h2 j2
  exact xt_icmp_eq cas22_b (fun _ => xt_wide (by omega) (by omega) (kk h2 j2)) (fun z => absurd rfl z)
theorem sRL_117 : zVS RL 117 11 mX11_raids 3 := ⟨⟨wmk 705 (by decide +kernel) rfl, wmk 706 (by decide +kernel) rfl, wmk 707 (by decide +kernel) rfl, wmk 1 (by decide +kernel) rfl, wmk 708 (by decide +kernel) rfl⟩, ⟨by decide +kernel, by decide +kernel, by decide +kernel⟩, by decide, TX11, 7, rfl⟩
theorem sRL_121 : zVS RL 121 12 mX12_raids 3 := ⟨⟨wmk 1343 (by decide +kernel) rfl, wmk 1344 (by decide +kernel) rfl, wmk 1345 (by decide +kernel) rfl, wmk 13 (by decide +kernel) rfl, wmk 1346 (by decide +kernel) rfl⟩, ⟨by decide +kernel, by decide +kernel, by decide +kernel⟩, by decide, TX12, 24, rfl⟩
theorem cas23_k : lCaseB 844 [1, 2, 3] 117 121 = true := by decide +kernel
theorem cas23_b : zB cL_law 888 891 1381 (.if_icmp .eq 493) 493 := by decide +kernel
theorem cas23 {G : ZG} {L : Nat} {xs : Nat → Int32} {h : ZH} {cells slots i N : Nat} (jy : JY N h) (hN : N + 200 < 2 ^ 30) (hL : L ≤ 3072) (hi : i + 5 < L) (hcl : cells + 1 ≤ 601024) (hsl : slots + 6 ≤ 7293034) (kk : ∀ h2, JY (N + 200) h2 → lT G L xs 1381 (lL i) [] h2 (cells + 1) (slots + 6)) : lT G L xs 844 (lL i) [] h cells slots := by
  refine l_two (ks := [1, 2, 3]) (N := N) cas23_k (by decide) rfl sRL_117 sRL_121 hL hi (by omega) (by omega) (two_raids jy _ _ _) ?_
  intro v h2 j2
  exact xt_icmp_eq cas23_b (fun _ => xt_wide (by omega) (by omega) (kk h2 j2)) (fun z => absurd rfl z)
theorem sRL_122 : zVS RL 122 11 mX11_felled 1 := ⟨⟨wmk 722 (by decide +kernel) rfl, wmk 723 (by decide +kernel) rfl, wmk 724 (by decide +kernel) rfl, wmk 1 (by decide +kernel) rfl, wmk 725 (by decide +kernel) rfl⟩, ⟨by decide +kernel, by decide +kernel, by decide +kernel⟩, by decide, TX11, 7, rfl⟩
theorem sRL_125 : zVS RL 125 12 mX12_felled 1 := ⟨⟨wmk 1354 (by decide +kernel) rfl, wmk 1355 (by decide +kernel) rfl, wmk 1356 (by decide +kernel) rfl, wmk 13 (by decide +kernel) rfl, wmk 1357 (by decide +kernel) rfl⟩, ⟨by decide +kernel, by decide +kernel, by decide +kernel⟩, by decide, TX12, 24, rfl⟩
theorem cas24_k : lCaseB 893 [1] 122 125 = true := by decide +kernel
theorem cas24_b : zB cL_law 913 916 1381 (.if_icmp .eq 468) 468 := by decide +kernel
theorem cas24 {G : ZG} {L : Nat} {xs : Nat → Int32} {h : ZH} {cells slots i N : Nat} (jy : JY N h) (hN : N + 200 < 2 ^ 30) (hL : L ≤ 3072) (hi : i + 5 < L) (hcl : cells + 1 ≤ 601024) (hsl : slots + 6 ≤ 7293034) (kk : ∀ h2, JY (N + 200) h2 → lT G L xs 1381 (lL i) [] h2 (cells + 1) (slots + 6)) : lT G L xs 893 (lL i) [] h cells slots := by
  refine l_two (ks := [1]) (N := N) cas24_k (by decide) rfl sRL_122 sRL_125 hL hi (by omega) (by omega) (two_felled jy _) ?_
  intro v h2 j2
  exact xt_icmp_eq cas24_b (fun _ => xt_wide (by omega) (by omega) (kk h2 j2)) (fun z => absurd rfl z)
theorem sRL_126 : zVS RL 126 11 mX11_twins 0 := ⟨⟨wmk 734 (by decide +kernel) rfl, wmk 735 (by decide +kernel) rfl, wmk 736 (by decide +kernel) rfl, wmk 1 (by decide +kernel) rfl, wmk 737 (by decide +kernel) rfl⟩, ⟨by decide +kernel, by decide +kernel, by decide +kernel⟩, by decide, TX11, 7, rfl⟩
theorem sRL_129 : zVS RL 129 12 mX12_twins 0 := ⟨⟨wmk 1358 (by decide +kernel) rfl, wmk 1359 (by decide +kernel) rfl, wmk 1360 (by decide +kernel) rfl, wmk 13 (by decide +kernel) rfl, wmk 1361 (by decide +kernel) rfl⟩, ⟨by decide +kernel, by decide +kernel, by decide +kernel⟩, by decide, TX12, 24, rfl⟩
theorem cas25_k : lCaseB 918 [] 126 129 = true := by decide +kernel
theorem cas25_b : zB cL_law 926 929 1381 (.if_icmp .eq 455) 455 := by decide +kernel
theorem cas25 {G : ZG} {L : Nat} {xs : Nat → Int32} {h : ZH} {cells slots i N : Nat} (jy : JY N h) (hN : N + 200 < 2 ^ 30) (hL : L ≤ 3072) (hi : i + 5 < L) (hcl : cells + 1 ≤ 601024) (hsl : slots + 6 ≤ 7293034) (kk : ∀ h2, JY (N + 200) h2 → lT G L xs 1381 (lL i) [] h2 (cells + 1) (slots + 6)) : lT G L xs 918 (lL i) [] h cells slots := by
  refine l_two (ks := []) (N := N) cas25_k (by decide) rfl sRL_126 sRL_129 hL hi (by omega) (by omega) (two_twins jy) ?_
  intro v h2 j2
  exact xt_icmp_eq cas25_b (fun _ => xt_wide (by omega) (by omega) (kk h2 j2)) (fun z => absurd rfl z)
theorem sRL_130 : zVS RL 130 11 mX11_highest 1 := ⟨⟨wmk 746 (by decide +kernel) rfl, wmk 747 (by decide +kernel) rfl, wmk 748 (by decide +kernel) rfl, wmk 1 (by decide +kernel) rfl, wmk 749 (by decide +kernel) rfl⟩, ⟨by decide +kernel, by decide +kernel, by decide +kernel⟩, by decide, TX11, 7, rfl⟩
theorem sRL_133 : zVS RL 133 12 mX12_highest 1 := ⟨⟨wmk 1362 (by decide +kernel) rfl, wmk 1363 (by decide +kernel) rfl, wmk 1364 (by decide +kernel) rfl, wmk 13 (by decide +kernel) rfl, wmk 1365 (by decide +kernel) rfl⟩, ⟨by decide +kernel, by decide +kernel, by decide +kernel⟩, by decide, TX12, 24, rfl⟩
theorem cas26_k : lCaseB 931 [1] 130 133 = true := by decide +kernel
theorem cas26_b : zB cL_law 951 954 1381 (.if_icmp .eq 430) 430 := by decide +kernel
theorem cas26 {G : ZG} {L : Nat} {xs : Nat → Int32} {h : ZH} {cells slots i N : Nat} (jy : JY N h) (hN : N + 200 < 2 ^ 30) (hL : L ≤ 3072) (hi : i + 5 < L) (hcl : cells + 1 ≤ 601024) (hsl : slots + 6 ≤ 7293034) (kk : ∀ h2, JY (N + 200) h2 → lT G L xs 1381 (lL i) [] h2 (cells + 1) (slots + 6)) : lT G L xs 931 (lL i) [] h cells slots := by
  refine l_two (ks := [1]) (N := N) cas26_k (by decide) rfl sRL_130 sRL_133 hL hi (by omega) (by omega) (two_highest jy _) ?_
  intro v h2 j2
  exact xt_icmp_eq cas26_b (fun _ => xt_wide (by omega) (by omega) (kk h2 j2)) (fun z => absurd rfl z)
theorem sRL_134 : zVS RL 134 11 mX11_depends 1 := ⟨⟨wmk 759 (by decide +kernel) rfl, wmk 760 (by decide +kernel) rfl, wmk 761 (by decide +kernel) rfl, wmk 1 (by decide +kernel) rfl, wmk 762 (by decide +kernel) rfl⟩, ⟨by decide +kernel, by decide +kernel, by decide +kernel⟩, by decide, TX11, 7, rfl⟩
theorem sRL_137 : zVS RL 137 12 mX12_depends 1 := ⟨⟨wmk 1366 (by decide +kernel) rfl, wmk 1367 (by decide +kernel) rfl, wmk 1368 (by decide +kernel) rfl, wmk 13 (by decide +kernel) rfl, wmk 1369 (by decide +kernel) rfl⟩, ⟨by decide +kernel, by decide +kernel, by decide +kernel⟩, by decide, TX12, 24, rfl⟩
theorem cas27_k : lCaseB 956 [1] 134 137 = true := by decide +kernel
theorem cas27_b : zB cL_law 976 979 1381 (.if_icmp .eq 405) 405 := by decide +kernel
theorem cas27 {G : ZG} {L : Nat} {xs : Nat → Int32} {h : ZH} {cells slots i N : Nat} (jy : JY N h) (hN : N + 200 < 2 ^ 30) (hL : L ≤ 3072) (hi : i + 5 < L) (hcl : cells + 1 ≤ 601024) (hsl : slots + 6 ≤ 7293034) (kk : ∀ h2, JY (N + 200) h2 → lT G L xs 1381 (lL i) [] h2 (cells + 1) (slots + 6)) : lT G L xs 956 (lL i) [] h cells slots := by
  refine l_two (ks := [1]) (N := N) cas27_k (by decide) rfl sRL_134 sRL_137 hL hi (by omega) (by omega) (two_depends jy _) ?_
  intro v h2 j2
  exact xt_icmp_eq cas27_b (fun _ => xt_wide (by omega) (by omega) (kk h2 j2)) (fun z => absurd rfl z)
theorem sRL_138 : zVS RL 138 11 mX11_image 0 := ⟨⟨wmk 767 (by decide +kernel) rfl, wmk 768 (by decide +kernel) rfl, wmk 769 (by decide +kernel) rfl, wmk 1 (by decide +kernel) rfl, wmk 770 (by decide +kernel) rfl⟩, ⟨by decide +kernel, by decide +kernel, by decide +kernel⟩, by decide, TX11, 7, rfl⟩
theorem sRL_141 : zVS RL 141 12 mX12_image 0 := ⟨⟨wmk 1370 (by decide +kernel) rfl, wmk 1371 (by decide +kernel) rfl, wmk 1372 (by decide +kernel) rfl, wmk 13 (by decide +kernel) rfl, wmk 1373 (by decide +kernel) rfl⟩, ⟨by decide +kernel, by decide +kernel, by decide +kernel⟩, by decide, TX12, 24, rfl⟩
theorem cas28_k : lCaseB 981 [] 138 141 = true := by decide +kernel
theorem cas28_b : zB cL_law 989 992 1381 (.if_icmp .eq 392) 392 := by decide +kernel
theorem cas28 {G : ZG} {L : Nat} {xs : Nat → Int32} {h : ZH} {cells slots i N : Nat} (jy : JY N h) (hN : N + 200 < 2 ^ 30) (hL : L ≤ 3072) (hi : i + 5 < L) (hcl : cells + 1 ≤ 601024) (hsl : slots + 6 ≤ 7293034) (kk : ∀ h2, JY (N + 200) h2 → lT G L xs 1381 (lL i) [] h2 (cells + 1) (slots + 6)) : lT G L xs 981 (lL i) [] h cells slots := by
  refine l_two (ks := []) (N := N) cas28_k (by decide) rfl sRL_138 sRL_141 hL hi (by omega) (by omega) (two_image 22 N jy) ?_
  intro v h2 j2
  exact xt_icmp_eq cas28_b (fun _ => xt_wide (by omega) (by omega) (kk h2 j2)) (fun z => absurd rfl z)
theorem sRL_142 : zVS RL 142 11 mX11_restore 0 := ⟨⟨wmk 771 (by decide +kernel) rfl, wmk 772 (by decide +kernel) rfl, wmk 773 (by decide +kernel) rfl, wmk 1 (by decide +kernel) rfl, wmk 774 (by decide +kernel) rfl⟩, ⟨by decide +kernel, by decide +kernel, by decide +kernel⟩, by decide, TX11, 7, rfl⟩
theorem sRL_145 : zVS RL 145 12 mX12_restore 0 := ⟨⟨wmk 1374 (by decide +kernel) rfl, wmk 1375 (by decide +kernel) rfl, wmk 1376 (by decide +kernel) rfl, wmk 13 (by decide +kernel) rfl, wmk 1377 (by decide +kernel) rfl⟩, ⟨by decide +kernel, by decide +kernel, by decide +kernel⟩, by decide, TX12, 24, rfl⟩
theorem cas29_k : lCaseB 994 [] 142 145 = true := by decide +kernel
theorem cas29_b : zB cL_law 1002 1005 1381 (.if_icmp .eq 379) 379 := by decide +kernel
theorem cas29 {G : ZG} {L : Nat} {xs : Nat → Int32} {h : ZH} {cells slots i N : Nat} (jy : JY N h) (hN : N + 200 < 2 ^ 30) (hL : L ≤ 3072) (hi : i + 5 < L) (hcl : cells + 1 ≤ 601024) (hsl : slots + 6 ≤ 7293034) (kk : ∀ h2, JY (N + 200) h2 → lT G L xs 1381 (lL i) [] h2 (cells + 1) (slots + 6)) : lT G L xs 994 (lL i) [] h cells slots := by
  refine l_two (ks := []) (N := N) cas29_k (by decide) rfl sRL_142 sRL_145 hL hi (by omega) (by omega) (two_restore 22 N hN jy) ?_
  intro v h2 j2
  exact xt_icmp_eq cas29_b (fun _ => xt_wide (by omega) (by omega) (kk h2 j2)) (fun z => absurd rfl z)
theorem sRL_146 : zVS RL 146 11 mX11_count 1 := ⟨⟨wmk 775 (by decide +kernel) rfl, wmk 776 (by decide +kernel) rfl, wmk 777 (by decide +kernel) rfl, wmk 1 (by decide +kernel) rfl, wmk 778 (by decide +kernel) rfl⟩, ⟨by decide +kernel, by decide +kernel, by decide +kernel⟩, by decide, TX11, 7, rfl⟩
theorem sRL_149 : zVS RL 149 12 mX12_count 1 := ⟨⟨wmk 1378 (by decide +kernel) rfl, wmk 1379 (by decide +kernel) rfl, wmk 1380 (by decide +kernel) rfl, wmk 13 (by decide +kernel) rfl, wmk 1381 (by decide +kernel) rfl⟩, ⟨by decide +kernel, by decide +kernel, by decide +kernel⟩, by decide, TX12, 24, rfl⟩
theorem cas30_k : lCaseB 1007 [1] 146 149 = true := by decide +kernel
theorem cas30_b : zB cL_law 1027 1030 1381 (.if_icmp .eq 354) 354 := by decide +kernel
theorem cas30 {G : ZG} {L : Nat} {xs : Nat → Int32} {h : ZH} {cells slots i N : Nat} (jy : JY N h) (hN : N + 200 < 2 ^ 30) (hL : L ≤ 3072) (hi : i + 5 < L) (hcl : cells + 1 ≤ 601024) (hsl : slots + 6 ≤ 7293034) (kk : ∀ h2, JY (N + 200) h2 → lT G L xs 1381 (lL i) [] h2 (cells + 1) (slots + 6)) : lT G L xs 1007 (lL i) [] h cells slots := by
  refine l_two (ks := [1]) (N := N) cas30_k (by decide) rfl sRL_146 sRL_149 hL hi (by omega) (by omega) (two_count jy _) ?_
  intro v h2 j2
  exact xt_icmp_eq cas30_b (fun _ => xt_wide (by omega) (by omega) (kk h2 j2)) (fun z => absurd rfl z)
theorem sRL_150 : zVS RL 150 11 mX11_keep 4 := ⟨⟨wmk 784 (by decide +kernel) rfl, wmk 785 (by decide +kernel) rfl, wmk 786 (by decide +kernel) rfl, wmk 1 (by decide +kernel) rfl, wmk 787 (by decide +kernel) rfl⟩, ⟨by decide +kernel, by decide +kernel, by decide +kernel⟩, by decide, TX11, 7, rfl⟩
theorem sRL_154 : zVS RL 154 12 mX12_keep 4 := ⟨⟨wmk 1386 (by decide +kernel) rfl, wmk 1387 (by decide +kernel) rfl, wmk 1388 (by decide +kernel) rfl, wmk 13 (by decide +kernel) rfl, wmk 1389 (by decide +kernel) rfl⟩, ⟨by decide +kernel, by decide +kernel, by decide +kernel⟩, by decide, TX12, 24, rfl⟩
theorem cas31_k : lCaseB 1032 [1, 2, 3, 4] 150 154 = true := by decide +kernel
theorem cas31_b : zB cL_law 1088 1091 1381 (.if_icmp .eq 293) 293 := by decide +kernel
theorem cas31 {G : ZG} {L : Nat} {xs : Nat → Int32} {h : ZH} {cells slots i N : Nat} (jy : JY N h) (hN : N + 200 < 2 ^ 30) (hL : L ≤ 3072) (hi : i + 5 < L) (hcl : cells + 1 ≤ 601024) (hsl : slots + 6 ≤ 7293034) (kk : ∀ h2, JY (N + 200) h2 → lT G L xs 1381 (lL i) [] h2 (cells + 1) (slots + 6)) : lT G L xs 1032 (lL i) [] h cells slots := by
  refine l_two (ks := [1, 2, 3, 4]) (N := N) cas31_k (by decide) rfl sRL_150 sRL_154 hL hi (by omega) (by omega) (two_keep jy _ _ _ _) ?_
  intro v h2 j2
  exact xt_icmp_eq cas31_b (fun _ => xt_wide (by omega) (by omega) (kk h2 j2)) (fun z => absurd rfl z)
theorem sRL_155 : zVS RL 155 11 mX11_row 3 := ⟨⟨wmk 796 (by decide +kernel) rfl, wmk 797 (by decide +kernel) rfl, wmk 798 (by decide +kernel) rfl, wmk 1 (by decide +kernel) rfl, wmk 799 (by decide +kernel) rfl⟩, ⟨by decide +kernel, by decide +kernel, by decide +kernel⟩, by decide, TX11, 7, rfl⟩
theorem sRL_158 : zVS RL 158 12 mX12_row 3 := ⟨⟨wmk 1390 (by decide +kernel) rfl, wmk 1391 (by decide +kernel) rfl, wmk 1392 (by decide +kernel) rfl, wmk 13 (by decide +kernel) rfl, wmk 1393 (by decide +kernel) rfl⟩, ⟨by decide +kernel, by decide +kernel, by decide +kernel⟩, by decide, TX12, 24, rfl⟩
theorem cas32_k : lCaseB 1093 [1, 2, 3] 155 158 = true := by decide +kernel
theorem cas32_b : zB cL_law 1137 1140 1381 (.if_icmp .eq 244) 244 := by decide +kernel
theorem cas32 {G : ZG} {L : Nat} {xs : Nat → Int32} {h : ZH} {cells slots i N : Nat} (jy : JY N h) (hN : N + 200 < 2 ^ 30) (hL : L ≤ 3072) (hi : i + 5 < L) (hcl : cells + 1 ≤ 601024) (hsl : slots + 6 ≤ 7293034) (kk : ∀ h2, JY (N + 200) h2 → lT G L xs 1381 (lL i) [] h2 (cells + 1) (slots + 6)) : lT G L xs 1093 (lL i) [] h cells slots := by
  refine l_two (ks := [1, 2, 3]) (N := N) cas32_k (by decide) rfl sRL_155 sRL_158 hL hi (by omega) (by omega) (two_row jy _ _ _) ?_
  intro v h2 j2
  exact xt_icmp_eq cas32_b (fun _ => xt_wide (by omega) (by omega) (kk h2 j2)) (fun z => absurd rfl z)
theorem sRL_159 : zVS RL 159 11 mX11_put 3 := ⟨⟨wmk 805 (by decide +kernel) rfl, wmk 806 (by decide +kernel) rfl, wmk 807 (by decide +kernel) rfl, wmk 1 (by decide +kernel) rfl, wmk 808 (by decide +kernel) rfl⟩, ⟨by decide +kernel, by decide +kernel, by decide +kernel⟩, by decide, TX11, 7, rfl⟩
theorem sRL_162 : zVS RL 162 12 mX12_put 3 := ⟨⟨wmk 1394 (by decide +kernel) rfl, wmk 1395 (by decide +kernel) rfl, wmk 1396 (by decide +kernel) rfl, wmk 13 (by decide +kernel) rfl, wmk 1397 (by decide +kernel) rfl⟩, ⟨by decide +kernel, by decide +kernel, by decide +kernel⟩, by decide, TX12, 24, rfl⟩
theorem cas33_k : lCaseB 1142 [1, 2, 3] 159 162 = true := by decide +kernel
theorem cas33_b : zB cL_law 1186 1189 1381 (.if_icmp .eq 195) 195 := by decide +kernel
theorem cas33 {G : ZG} {L : Nat} {xs : Nat → Int32} {h : ZH} {cells slots i N : Nat} (jy : JY N h) (hN : N + 200 < 2 ^ 30) (hL : L ≤ 3072) (hi : i + 5 < L) (hcl : cells + 1 ≤ 601024) (hsl : slots + 6 ≤ 7293034) (kk : ∀ h2, JY (N + 200) h2 → lT G L xs 1381 (lL i) [] h2 (cells + 1) (slots + 6)) : lT G L xs 1142 (lL i) [] h cells slots := by
  refine l_two (ks := [1, 2, 3]) (N := N) cas33_k (by decide) rfl sRL_159 sRL_162 hL hi (by omega) (by omega) (two_put 20 N jy _ _ _) ?_
  intro v h2 j2
  exact xt_icmp_eq cas33_b (fun _ => xt_wide (by omega) (by omega) (kk h2 j2)) (fun z => absurd rfl z)
theorem sRL_172 : zVS RL 172 11 mX11_copy 5 := ⟨⟨wmk 814 (by decide +kernel) rfl, wmk 815 (by decide +kernel) rfl, wmk 816 (by decide +kernel) rfl, wmk 1 (by decide +kernel) rfl, wmk 817 (by decide +kernel) rfl⟩, ⟨by decide +kernel, by decide +kernel, by decide +kernel⟩, by decide, TX11, 7, rfl⟩
theorem sRL_176 : zVS RL 176 12 mX12_copy 5 := ⟨⟨wmk 1402 (by decide +kernel) rfl, wmk 1403 (by decide +kernel) rfl, wmk 1404 (by decide +kernel) rfl, wmk 13 (by decide +kernel) rfl, wmk 1405 (by decide +kernel) rfl⟩, ⟨by decide +kernel, by decide +kernel, by decide +kernel⟩, by decide, TX12, 24, rfl⟩
theorem cas35_k : lCaseB 1258 [1, 2, 3, 4, 5] 172 176 = true := by decide +kernel
theorem cas35_b : zB cL_law 1326 1329 1381 (.if_icmp .eq 55) 55 := by decide +kernel
theorem cas35 {G : ZG} {L : Nat} {xs : Nat → Int32} {h : ZH} {cells slots i N : Nat} (jy : JY N h) (hN : N + 200 < 2 ^ 30) (hL : L ≤ 3072) (hi : i + 5 < L) (hcl : cells + 1 ≤ 601024) (hsl : slots + 6 ≤ 7293034) (kk : ∀ h2, JY (N + 200) h2 → lT G L xs 1381 (lL i) [] h2 (cells + 1) (slots + 6)) : lT G L xs 1258 (lL i) [] h cells slots := by
  refine l_two (ks := [1, 2, 3, 4, 5]) (N := N) cas35_k (by decide) rfl sRL_172 sRL_176 hL hi (by omega) (by omega) (two_copy 21 N jy _ _ _ _ _) ?_
  intro v h2 j2
  exact xt_icmp_eq cas35_b (fun _ => xt_wide (by omega) (by omega) (kk h2 j2)) (fun z => absurd rfl z)
theorem sRL_177 : zVS RL 177 11 mX11_cost 1 := ⟨⟨wmk 823 (by decide +kernel) rfl, wmk 824 (by decide +kernel) rfl, wmk 825 (by decide +kernel) rfl, wmk 1 (by decide +kernel) rfl, wmk 826 (by decide +kernel) rfl⟩, ⟨by decide +kernel, by decide +kernel, by decide +kernel⟩, by decide, TX11, 7, rfl⟩
theorem sRL_180 : zVS RL 180 12 mX12_cost 1 := ⟨⟨wmk 1406 (by decide +kernel) rfl, wmk 1407 (by decide +kernel) rfl, wmk 1408 (by decide +kernel) rfl, wmk 13 (by decide +kernel) rfl, wmk 1409 (by decide +kernel) rfl⟩, ⟨by decide +kernel, by decide +kernel, by decide +kernel⟩, by decide, TX12, 24, rfl⟩
theorem cas36_k : lCaseB 1331 [1] 177 180 = true := by decide +kernel
theorem cas36_b : zB cL_law 1351 1354 1381 (.if_icmp .eq 30) 30 := by decide +kernel
theorem cas36 {G : ZG} {L : Nat} {xs : Nat → Int32} {h : ZH} {cells slots i N : Nat} (jy : JY N h) (hN : N + 200 < 2 ^ 30) (hL : L ≤ 3072) (hi : i + 5 < L) (hcl : cells + 1 ≤ 601024) (hsl : slots + 6 ≤ 7293034) (kk : ∀ h2, JY (N + 200) h2 → lT G L xs 1381 (lL i) [] h2 (cells + 1) (slots + 6)) : lT G L xs 1331 (lL i) [] h cells slots := by
  refine l_two (ks := [1]) (N := N) cas36_k (by decide) rfl sRL_177 sRL_180 hL hi (by omega) (by omega) (two_cost jy _) ?_
  intro v h2 j2
  exact xt_icmp_eq cas36_b (fun _ => xt_wide (by omega) (by omega) (kk h2 j2)) (fun z => absurd rfl z)
theorem sRL_181 : zVS RL 181 11 mX11_toss 1 := ⟨⟨wmk 857 (by decide +kernel) rfl, wmk 858 (by decide +kernel) rfl, wmk 859 (by decide +kernel) rfl, wmk 1 (by decide +kernel) rfl, wmk 860 (by decide +kernel) rfl⟩, ⟨by decide +kernel, by decide +kernel, by decide +kernel⟩, by decide, TX11, 7, rfl⟩
theorem sRL_184 : zVS RL 184 12 mX12_toss 1 := ⟨⟨wmk 1413 (by decide +kernel) rfl, wmk 1414 (by decide +kernel) rfl, wmk 1415 (by decide +kernel) rfl, wmk 13 (by decide +kernel) rfl, wmk 1416 (by decide +kernel) rfl⟩, ⟨by decide +kernel, by decide +kernel, by decide +kernel⟩, by decide, TX12, 24, rfl⟩
theorem cas37_k : lCaseB 1356 [1] 181 184 = true := by decide +kernel
theorem cas37_b : zB cL_law 1376 1379 1381 (.if_icmp .eq 5) 5 := by decide +kernel
theorem cas37 {G : ZG} {L : Nat} {xs : Nat → Int32} {h : ZH} {cells slots i N : Nat} (jy : JY N h) (hN : N + 200 < 2 ^ 30) (hL : L ≤ 3072) (hi : i + 5 < L) (hcl : cells + 1 ≤ 601024) (hsl : slots + 6 ≤ 7293034) (kk : ∀ h2, JY (N + 200) h2 → lT G L xs 1381 (lL i) [] h2 (cells + 1) (slots + 6)) : lT G L xs 1356 (lL i) [] h cells slots := by
  refine l_twoX (ks := [1]) (N := N) cas37_k (by decide) rfl sRL_181 sRL_184 hL hi hcl hsl (two_toss jy _) ?_
  intro v h2 j2
  exact xt_icmp_eq cas37_b (fun _ => kk h2 j2) (fun z => absurd rfl z)
theorem sRL_168 : zVS RL 168 12 mX12_element 2 := ⟨⟨wmk 1398 (by decide +kernel) rfl, wmk 1399 (by decide +kernel) rfl, wmk 1400 (by decide +kernel) rfl, wmk 13 (by decide +kernel) rfl, wmk 1401 (by decide +kernel) rfl⟩, ⟨by decide +kernel, by decide +kernel, by decide +kernel⟩, by decide, TX12, 24, rfl⟩
theorem sRL_169 : zVS RL 169 12 mX12_thrown 0 := ⟨⟨wmk 1382 (by decide +kernel) rfl, wmk 1383 (by decide +kernel) rfl, wmk 1384 (by decide +kernel) rfl, wmk 13 (by decide +kernel) rfl, wmk 1385 (by decide +kernel) rfl⟩, ⟨by decide +kernel, by decide +kernel, by decide +kernel⟩, by decide, TX12, 24, rfl⟩
theorem e34_1191 : zD cL_law 1191 1192 (.aload_n 1) 1 := by decide +kernel
theorem e34_1204 : zD cL_law 1204 1205 (.aload_n 3) 1 := by decide +kernel
theorem e34_1205 : zD cL_law 1205 1208 (.invokestatic 163) 3 := by decide +kernel
theorem e34_1208 : zD cL_law 1208 1210 (.istore 5) 2 := by decide +kernel
theorem e34_1210 : zD cL_law 1210 1211 (.aload_n 2) 1 := by decide +kernel
theorem e34_1223 : zD cL_law 1223 1226 (.invokevirtual 168) 3 := by decide +kernel
theorem e34_1226 : zD cL_law 1226 1228 (.lstore 6) 2 := by decide +kernel
theorem e34_1228 : zD cL_law 1228 1229 (.aload_n 2) 1 := by decide +kernel
theorem e34_1229 : zD cL_law 1229 1232 (.invokevirtual 169) 3 := by decide +kernel
theorem e34_1232 : zD cL_law 1232 1234 (.iload 5) 2 := by decide +kernel
theorem e34_1239 : zD cL_law 1239 1241 (.iload 5) 2 := by decide +kernel
theorem e34_1244 : zD cL_law 1244 1245 (.aload_n 3) 1 := by decide +kernel
theorem e34_1245 : zD cL_law 1245 1246 (.iconst 0) 1 := by decide +kernel
theorem e34_1246 : zD cL_law 1246 1247 .laload 1 := by decide +kernel
theorem e34_1247 : zD cL_law 1247 1249 (.lload 6) 2 := by decide +kernel
theorem e34_1249 : zD cL_law 1249 1250 .lcmp 1 := by decide +kernel
theorem e34_1234 : zB cL_law 1234 1237 1239 (.if_icmp .eq 5) 5 := by decide +kernel
theorem e34_1241 : zB cL_law 1241 1244 1255 (.ifCond .ne 14) 14 := by decide +kernel
theorem e34_1250 : zB cL_law 1250 1253 1255 (.ifCond .eq 5) 5 := by decide +kernel
theorem e34_1255 : zB cL_law 1255 1258 1381 (.goto 126) 126 := by decide +kernel
theorem e34_p1 : lPushB 1192 [1, 2] = true := by decide +kernel
theorem e34_p2 : lPushB 1211 [1, 2] = true := by decide +kernel
theorem cas34 {G : ZG} {L : Nat} {xs : Nat → Int32} {h : ZH} {cells slots i N : Nat} (jy : JY N h) (hN : N + 200 < 2 ^ 30) (hL : L ≤ 3072) (hi : i + 5 < L) (hcl : cells + 1 ≤ 601024) (hsl : slots + 6 ≤ 7293034) (kk : ∀ h2, JY (N + 200) h2 → lT G L xs 1381 (lL i) [] h2 (cells + 1) (slots + 6)) : lT G L xs 1191 (lL i) [] h cells slots := by
  refine xt_aload_n e34_1191 rfl ?_
  refine l_args (i := i) rfl rfl hL hi [1, 2] 1192 _ e34_p1 (by decide) ?_
  refine xt_aload_n (pc := 1204) e34_1204 rfl ?_
  refine xt_cSW (d := 24) (S := []) (as := [zr 0 0, zi (xs (i + 1)), zi (xs (i + 2)), zr 44 0]) e34_1205 sRL_163 rfl (by simp) rfl rm_f rm_l hcl hsl (two_element jy (xs (i + 1)) (xs (i + 2))) ?_
  rintro r h1 ⟨k, rfl, z⟩
  refine xt_istore (L' := [zr 45 0, zr 0 0, zr 5 0, zr 44 0, zi (nI i), zi k, zu, zu]) e34_1208 (by decide) rfl ?_
  refine xt_aload_n e34_1210 rfl ?_
  refine l_args (i := i) rfl rfl hL hi [1, 2] 1211 _ e34_p2 (by decide) ?_
  refine xt_cV (pc := 1223) (d := 24) (S := []) (as := [zi (xs (i + 1)), zi (xs (i + 2))]) (k := 5) (i := 0) e34_1223 sRL_168 rfl (by decide) rfl (by simp) rfl rm_f rm_l hcl hsl z ?_
  rintro r2 h2 ⟨b, rfl, e23, e44, j2⟩
  refine xt_lstore (L' := [zr 45 0, zr 0 0, zr 5 0, zr 44 0, zi (nI i), zi k, zl b, zu]) e34_1226 (by decide) rfl ?_
  refine xt_aload_n e34_1228 rfl ?_
  refine xt_cV (d := 24) (S := []) (as := []) (k := 5) (i := 0) e34_1229 sRL_169 rfl (by decide) rfl (by simp) rfl rm_f rm_l hcl hsl (sX12_thrown 23) ?_
  rintro r3 h3 ⟨rfl, e3⟩
  rw [e3, e23]
  refine xt_iload e34_1232 rfl ?_
  have fin : lT G L xs 1255 [zr 45 0, zr 0 0, zr 5 0, zr 44 0, zi (nI i), zi k, zl b, zu] [] h2 (cells + 1) (slots + 6) := by
    refine xt_goto e34_1255 ?_
    refine xt_sub (L' := lL i) ?_ (kk h2 j2)
    exact ⟨rfl, rfl, rfl, rfl, rfl, trivial⟩
  refine xt_icmp_eq e34_1234 (fun _ => ?_) (fun z => absurd rfl z)
  refine xt_iload e34_1239 rfl ?_
  refine xt_if_ne e34_1241 (fun _ => fin) (fun k0 => ?_)
  refine xt_aload_n e34_1244 rfl ?_
  refine xt_iconst (v := 0) e34_1245 rfl ?_
  refine xt_lald (k := 44) (i := 0) (n := 1) e34_1246 rfl (by decide) (show vp_in 0 1 from vpn (n := 0) (N := 1) (by decide) (by decide)) ?_
  refine xt_lload e34_1247 rfl ?_
  refine xt_lcmp e34_1249 ?_
  have e9 : h2.2 44 0 (0 : Int32).toNatClampNeg = b := e44 k0
  rw [e9, lg_cmp_rf]
  exact xt_if_eq e34_1250 (fun _ => fin) (fun z => absurd rfl z)
theorem hd_23 : zD cL_law 23 25 (.iload 4) 2 := by decide +kernel
theorem hd_25 : zD cL_law 25 26 (.aload_n 0) 1 := by decide +kernel
theorem hd_26 : zD cL_law 26 27 .arraylength 1 := by decide +kernel
theorem hd_27 : zD cL_law 27 29 (.bipush 6) 2 := by decide +kernel
theorem hd_29 : zD cL_law 29 30 .isub 1 := by decide +kernel
theorem hd_33 : zD cL_law 33 34 (.aload_n 0) 1 := by decide +kernel
theorem hd_34 : zD cL_law 34 36 (.iload 4) 2 := by decide +kernel
theorem hd_36 : zD cL_law 36 37 .iaload 1 := by decide +kernel
theorem hd_37 : zD cL_law 37 39 (.bipush 63) 2 := by decide +kernel
theorem hd_39 : zD cL_law 39 40 .iand 1 := by decide +kernel
theorem hd_1381 : zD cL_law 1381 1384 (.iinc 4 6) 3 := by decide +kernel
theorem hd_1387 : zD cL_law 1387 1388 (.iconst 1) 1 := by decide +kernel
theorem hd_30 : zB cL_law 30 33 1387 (.if_icmp .gt 1357) 1357 := by decide +kernel
theorem hd_1384 : zB cL_law 1384 1387 23 (.goto (-1361)) (-1361) := by decide +kernel
theorem hd_40 : decode cL_law 40 = .ok (.tableswitch 1341 0 37 #[168, 193, 230, 267, 292, 317, 354, 379, 392, 429, 454, 467, 492, 517, 567, 592, 629, 654, 667, 692, 717, 754, 779, 804, 853, 878, 891, 916, 941, 954, 967, 992, 1053, 1102, 1151, 1218, 1291, 1316], 168) := by decide +kernel
