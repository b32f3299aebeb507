section
variable {n c m : Nat} {iv ct st sd rc si ri : Nat → Nat} {g : Nat → Nat → Nat}
variable {vX IV U CT NB SV ST SD RC PL SI RI LN ND SE : Nat → Int32}
theorem rx_step {post : Int32 → St2 → Prop} {p : Nat} {x : Int32} (hp : p < n) (n4 : n ≤ 4) (h : ∀ r vX', post r (nI n, nI c, nI m, vX', IV, U, CT, NB, SV, ST, SD, RC, PL, SI, RI, LN, ND, SE)) : wpX_step post (nI n, nI c, nI m, vX, IV, U, CT, NB, SV, ST, SD, RC, PL, SI, RI, LN, ND, SE) (nI p) x := by
  simp only [wpX_step]
  refine rx_bad hp n4 ?_
  by_cases a : U p = 0
  · simp (disch := omega) only [a, forall_eq, Nat.le_refl, rl_10, rl_n10, nI_leI, nI_ltI, nI_eq, vp_in_nI, nI_clamp, nI_1, nI_add, rl_lt0, rl_0le, rl_eq0, rl_eq1, rl_eq2, rl_m1, rl_m8, rl_m100, rl_vb0, rl_vb1, true_implies, forall_const, not_true_eq_false, not_false_eq_true, false_implies, and_true, true_and, implies_true, and_self]
    exact h _ _
  · simp (disch := omega) only [a, wpX_mixIn, forall_eq, Nat.le_refl, rl_10, rl_n10, nI_leI, nI_ltI, nI_eq, vp_in_nI, nI_clamp, nI_1, nI_add, rl_lt0, rl_0le, rl_eq0, rl_eq1, rl_eq2, rl_m1, rl_m8, rl_m100, rl_vb0, rl_vb1, true_implies, forall_const, not_true_eq_false, not_false_eq_true, false_implies, and_true, true_and, implies_true, and_self]
    exact h _ _
theorem rx_crash {post : Int32 → St2 → Prop} {p : Nat} (hp : p < n) (n4 : n ≤ 4) (h0 : U p = 0 → post (-2) (nI n, nI c, nI m, vX, IV, U, CT, NB, SV, ST, SD, RC, PL, SI, RI, LN, ND, SE)) (h1 : ¬ U p = 0 → post 0 (nI n, nI c, nI m, vX, IV, upd U p 0, CT, NB, SV, ST, SD, RC, PL, SI, RI, LN, ND, SE)) : wpX_crash post (nI n, nI c, nI m, vX, IV, U, CT, NB, SV, ST, SD, RC, PL, SI, RI, LN, ND, SE) (nI p) := by
  simp only [wpX_crash]
  refine rx_bad hp n4 ?_
  by_cases a : U p = 0
  · simp (disch := omega) only [a, forall_eq, Nat.le_refl, rl_10, rl_n10, nI_leI, nI_ltI, nI_eq, vp_in_nI, nI_clamp, nI_1, nI_add, rl_lt0, rl_0le, rl_eq0, rl_eq1, rl_eq2, rl_m1, rl_m8, rl_m100, rl_vb0, rl_vb1, true_implies, forall_const, not_true_eq_false, not_false_eq_true, false_implies, and_true, true_and, implies_true, and_self]
    exact h0 a
  · simp (disch := omega) only [a, forall_eq, Nat.le_refl, rl_10, rl_n10, nI_leI, nI_ltI, nI_eq, vp_in_nI, nI_clamp, nI_1, nI_add, rl_lt0, rl_0le, rl_eq0, rl_eq1, rl_eq2, rl_m1, rl_m8, rl_m100, rl_vb0, rl_vb1, true_implies, forall_const, not_true_eq_false, not_false_eq_true, false_implies, and_true, true_and, implies_true, and_self]
    exact h1 a
theorem rx_lose {post : Int32 → St2 → Prop} {e : Nat} (he : e < m) (m16 : m ≤ 16) (hST : ST e = nI (st e)) (h2 : st e ≤ 2) (h0 : ¬ st e = 1 → post (-4) (nI n, nI c, nI m, vX, IV, U, CT, NB, SV, ST, SD, RC, PL, SI, RI, LN, ND, SE)) (h1 : st e = 1 → post 0 (nI n, nI c, nI m, vX, IV, U, CT, NB, SV, upd ST e 0, SD, RC, PL, SI, RI, LN, ND, SE)) : wpX_lose post (nI n, nI c, nI m, vX, IV, U, CT, NB, SV, ST, SD, RC, PL, SI, RI, LN, ND, SE) (nI e) := by
  simp only [wpX_lose]
  refine rx_badS he m16 ?_
  by_cases a : st e = 1
  · simp (disch := omega) only [hST, a, forall_eq, Nat.le_refl, rl_10, rl_n10, nI_leI, nI_ltI, nI_eq, vp_in_nI, nI_clamp, nI_1, nI_add, rl_lt0, rl_0le, rl_eq0, rl_eq1, rl_eq2, rl_m1, rl_m8, rl_m100, rl_vb0, rl_vb1, true_implies, forall_const, not_true_eq_false, not_false_eq_true, false_implies, and_true, true_and, implies_true, and_self]
    exact h1 a
  · simp (disch := omega) only [hST, a, forall_eq, Nat.le_refl, rl_10, rl_n10, nI_leI, nI_ltI, nI_eq, vp_in_nI, nI_clamp, nI_1, nI_add, rl_lt0, rl_0le, rl_eq0, rl_eq1, rl_eq2, rl_m1, rl_m8, rl_m100, rl_vb0, rl_vb1, true_implies, forall_const, not_true_eq_false, not_false_eq_true, false_implies, and_true, true_and, implies_true, and_self]
    exact h0 a
theorem rx_deliver (hA : rl_A n c m iv ct g st sd rc si ri IV CT NB ST SD RC SI RI) {post : Int32 → St2 → Prop} {e : Nat} (he : e < m) (h0 : ¬ st e = 1 → post (-4) (nI n, nI c, nI m, vX, IV, U, CT, NB, SV, ST, SD, RC, PL, SI, RI, LN, ND, SE)) (h1 : st e = 1 → U (rc e) = 0 → post (-2) (nI n, nI c, nI m, vX, IV, U, CT, NB, SV, ST, SD, RC, PL, SI, RI, LN, ND, SE))
    (h2 : st e = 1 → ¬ U (rc e) = 0 → ∀ vX', post 0 (nI n, nI c, nI m, vX', IV, U, CT, NB, SV, upd ST e 2, SD, RC, PL, SI, upd RI e (nI (iv (rc e))), LN, ND, SE)) : wpX_deliver post (nI n, nI c, nI m, vX, IV, U, CT, NB, SV, ST, SD, RC, PL, SI, RI, LN, ND, SE) (nI e) := by
  have hA' := hA
  obtain ⟨hW, hIV, hCT, hNB, hST, hSD, hRC, hSI, hRI⟩ := hA'
  have hW' := hW
  obtain ⟨⟨⟨n2, n4⟩, ⟨c3h, c8⟩, ⟨m4, m16⟩⟩, hS, hM, hB⟩ := hW'
  obtain ⟨t1, t2, t3, t4, t5⟩ := hM.1 e
  simp only [wpX_deliver]
  refine rx_badS he m16 ?_
  by_cases a : st e = 1
  · by_cases b : U (rc e) = 0
    · simp (disch := omega) only [hST, hRC, a, b, forall_eq, Nat.le_refl, rl_10, rl_n10, nI_leI, nI_ltI, nI_eq, vp_in_nI, nI_clamp, nI_1, nI_add, rl_lt0, rl_0le, rl_eq0, rl_eq1, rl_eq2, rl_m1, rl_m8, rl_m100, rl_vb0, rl_vb1, true_implies, forall_const, not_true_eq_false, not_false_eq_true, false_implies, and_true, true_and, implies_true, and_self]
      exact h1 a b
    · simp (disch := omega) only [hST, hRC, hIV, a, b, wpX_mixIn, forall_eq, Nat.le_refl, rl_10, rl_n10, nI_leI, nI_ltI, nI_eq, vp_in_nI, nI_clamp, nI_1, nI_add, rl_lt0, rl_0le, rl_eq0, rl_eq1, rl_eq2, rl_m1, rl_m8, rl_m100, rl_vb0, rl_vb1, true_implies, forall_const, not_true_eq_false, not_false_eq_true, false_implies, and_true, true_and, implies_true, and_self]
      exact h2 a b _
  · simp (disch := omega) only [hST, a, forall_eq, Nat.le_refl, rl_10, rl_n10, nI_leI, nI_ltI, nI_eq, vp_in_nI, nI_clamp, nI_1, nI_add, rl_lt0, rl_0le, rl_eq0, rl_eq1, rl_eq2, rl_m1, rl_m8, rl_m100, rl_vb0, rl_vb1, true_implies, forall_const, not_true_eq_false, not_false_eq_true, false_implies, and_true, true_and, implies_true, and_self]
    exact h0 a
theorem rx_checkpoint (hA : rl_A n c m iv ct g st sd rc si ri IV CT NB ST SD RC SI RI) {post : Int32 → St2 → Prop} {p : Nat} (hp : p < n) (h99 : iv p < 99) (h0 : U p = 0 → post (-2) (nI n, nI c, nI m, vX, IV, U, CT, NB, SV, ST, SD, RC, PL, SI, RI, LN, ND, SE)) (h1 : ¬ ct p < c → post (-3) (nI n, nI c, nI m, vX, IV, U, CT, NB, SV, ST, SD, RC, PL, SI, RI, LN, ND, SE))
    (h2 : ¬ U p = 0 → ct p < c → post (nI (iv p + 1)) (nI n, nI c, nI m, vX, upd IV p (nI (iv p + 1)), U, upd CT p (nI (ct p + 1)), upd NB (p * 8 + ct p) (nI (iv p + 1)), upd SV (p * 8 + ct p) (vX p), ST, SD, RC, PL, SI, RI, LN, ND, SE)) : wpX_checkpoint post (nI n, nI c, nI m, vX, IV, U, CT, NB, SV, ST, SD, RC, PL, SI, RI, LN, ND, SE) (nI p) := by
  have hA' := hA
  obtain ⟨hW, hIV, hCT, hNB, hST, hSD, hRC, hSI, hRI⟩ := hA'
  have hW' := hW
  obtain ⟨⟨⟨n2, n4⟩, ⟨c3h, c8⟩, ⟨m4, m16⟩⟩, hS, hM, hB⟩ := hW'
  obtain ⟨s1, s2, s3, s4, s5⟩ := hS p hp
  simp only [wpX_checkpoint]
  refine rx_bad hp n4 ?_
  by_cases a : U p = 0
  · simp (disch := omega) only [a, forall_eq, Nat.le_refl, rl_10, rl_n10, nI_leI, nI_ltI, nI_eq, vp_in_nI, nI_clamp, nI_1, nI_add, rl_lt0, rl_0le, rl_eq0, rl_eq1, rl_eq2, rl_m1, rl_m8, rl_m100, rl_vb0, rl_vb1, true_implies, forall_const, not_true_eq_false, not_false_eq_true, false_implies, and_true, true_and, implies_true, and_self]
    exact h0 a
  · by_cases d : ct p < c
    · simp (disch := omega) only [a, h99, d, hIV, hCT, rl_l99, pk_us, wpX_store, wpX_firstCell, forall_eq, Nat.le_refl, rl_10, rl_n10, nI_leI, nI_ltI, nI_eq, vp_in_nI, nI_clamp, nI_1, nI_add, rl_lt0, rl_0le, rl_eq0, rl_eq1, rl_eq2, rl_m1, rl_m8, rl_m100, rl_vb0, rl_vb1, true_implies, forall_const, not_true_eq_false, not_false_eq_true, false_implies, and_true, true_and, implies_true, and_self]
      exact h2 a d
    · simp (disch := omega) only [a, h99, d, hIV, hCT, rl_l99, forall_eq, Nat.le_refl, rl_10, rl_n10, nI_leI, nI_ltI, nI_eq, vp_in_nI, nI_clamp, nI_1, nI_add, rl_lt0, rl_0le, rl_eq0, rl_eq1, rl_eq2, rl_m1, rl_m8, rl_m100, rl_vb0, rl_vb1, true_implies, forall_const, not_true_eq_false, not_false_eq_true, false_implies, and_true, true_and, implies_true, and_self]
      exact h1 d
theorem rx_send (hA : rl_A n c m iv ct g st sd rc si ri IV CT NB ST SD RC SI RI) {post : Int32 → St2 → Prop} {p q : Nat} (hp : p < n) (hq : q < n) (hpq : p ≠ q) (h0 : U p = 0 → post (-2) (nI n, nI c, nI m, vX, IV, U, CT, NB, SV, ST, SD, RC, PL, SI, RI, LN, ND, SE)) (h1 : post (-3) (nI n, nI c, nI m, vX, IV, U, CT, NB, SV, ST, SD, RC, PL, SI, RI, LN, ND, SE))
    (h2 : ∀ s, s < m → st s = 0 → post (nI s) (nI n, nI c, nI m, vX, IV, U, CT, NB, SV, upd ST s 1, upd SD s (nI p), upd RC s (nI q), upd PL s (vX p), upd SI s (nI (iv p)), RI, LN, ND, SE)) : wpX_send post (nI n, nI c, nI m, vX, IV, U, CT, NB, SV, ST, SD, RC, PL, SI, RI, LN, ND, SE) (nI p) (nI q) := by
  have hA' := hA
  obtain ⟨hW, hIV, hCT, hNB, hST, hSD, hRC, hSI, hRI⟩ := hA'
  have hW' := hW
  obtain ⟨⟨⟨n2, n4⟩, ⟨c3h, c8⟩, ⟨m4, m16⟩⟩, hS, hM, hB⟩ := hW'
  simp only [wpX_send]
  refine rx_bad hp n4 ?_
  refine br_t rfl ?_
  refine rx_bad hq n4 ?_
  refine br_t rfl ?_
  have e' : ¬ nI p = nI q := fun z => hpq ((nI_eq (by omega) (by omega)).mp z)
  have hcl : (nI p).toNatClampNeg = p := nI_clamp (by omega)
  have hin : vp_in (nI p) 4 := vp_in_nI (by omega) (by omega)
  refine br_f e' ⟨hin, ?_⟩
  by_cases a : U p = 0
  · exact br_t (by rw [hcl]; exact a) (h0 a)
  · refine br_f (by rw [hcl]; exact a) ?_
    refine rx_empty m16 hST (fun s => (hM.1 s).1) (fun s hs he hne => ?_) (fun hne => ?_)
    · have hne4 := rl_ne4 (a := s) (by omega)
      simp (disch := omega) only [hne4, hIV, forall_eq, Nat.le_refl, rl_10, rl_n10, nI_leI, nI_ltI, nI_eq, vp_in_nI, nI_clamp, nI_1, nI_add, rl_lt0, rl_0le, rl_eq0, rl_eq1, rl_eq2, rl_m1, rl_m8, rl_m100, rl_vb0, rl_vb1, true_implies, forall_const, not_true_eq_false, not_false_eq_true, false_implies, and_true, true_and, implies_true, and_self]
      exact h2 s hs he
    · exact br_t rfl h1
theorem rx_msg0 {post : Int32 → Prop} {e : Nat} (he : e < m) (m16 : m ≤ 16) (hST : ST e = nI (st e)) (h : post (nI (st e))) : wpX_message post (nI n, nI c, nI m, vX, IV, U, CT, NB, SV, ST, SD, RC, PL, SI, RI, LN, ND, SE) (nI e) 0 := by
  have f0 : ¬ (0 : Int32) < 0 := by decide
  have f1 : (0 : Int32) ≤ 5 := by decide
  simp only [wpX_message]
  refine rx_badS he m16 ?_
  simp (disch := omega) only [f0, f1, hST, forall_eq, Nat.le_refl, rl_10, rl_n10, nI_leI, nI_ltI, nI_eq, vp_in_nI, nI_clamp, nI_1, nI_add, rl_lt0, rl_0le, rl_eq0, rl_eq1, rl_eq2, rl_m1, rl_m8, rl_m100, rl_vb0, rl_vb1, true_implies, forall_const, not_true_eq_false, not_false_eq_true, false_implies, and_true, true_and, implies_true, and_self]
  exact h
theorem rx_intv {post : Int32 → Prop} {p : Nat} (hp : p < n) (n4 : n ≤ 4) (hIV : IV p = nI (iv p)) (h : post (nI (iv p))) : wpX_interval post (nI n, nI c, nI m, vX, IV, U, CT, NB, SV, ST, SD, RC, PL, SI, RI, LN, ND, SE) (nI p) := by
  simp only [wpX_interval]
  refine rx_bad hp n4 ?_
  simp (disch := omega) only [hIV, forall_eq, Nat.le_refl, rl_10, rl_n10, nI_leI, nI_ltI, nI_eq, vp_in_nI, nI_clamp, nI_1, nI_add, rl_lt0, rl_0le, rl_eq0, rl_eq1, rl_eq2, rl_m1, rl_m8, rl_m100, rl_vb0, rl_vb1, true_implies, forall_const, not_true_eq_false, not_false_eq_true, false_implies, and_true, true_and, implies_true, and_self]
  exact h
theorem rx_isUp {post : Int32 → Prop} {p : Nat} (hp : p < n) (n4 : n ≤ 4) (h0 : U p = 0 → post 0) (h1 : ¬ U p = 0 → post 1) : wpX_isUp post (nI n, nI c, nI m, vX, IV, U, CT, NB, SV, ST, SD, RC, PL, SI, RI, LN, ND, SE) (nI p) := by
  simp only [wpX_isUp]
  refine rx_bad hp n4 ?_
  by_cases a : U p = 0
  · simp (disch := omega) only [a, forall_eq, Nat.le_refl, rl_10, rl_n10, nI_leI, nI_ltI, nI_eq, vp_in_nI, nI_clamp, nI_1, nI_add, rl_lt0, rl_0le, rl_eq0, rl_eq1, rl_eq2, rl_m1, rl_m8, rl_m100, rl_vb0, rl_vb1, true_implies, forall_const, not_true_eq_false, not_false_eq_true, false_implies, and_true, true_and, implies_true, and_self]
    exact h0 a
  · simp (disch := omega) only [a, forall_eq, Nat.le_refl, rl_10, rl_n10, nI_leI, nI_ltI, nI_eq, vp_in_nI, nI_clamp, nI_1, nI_add, rl_lt0, rl_0le, rl_eq0, rl_eq1, rl_eq2, rl_m1, rl_m8, rl_m100, rl_vb0, rl_vb1, true_implies, forall_const, not_true_eq_false, not_false_eq_true, false_implies, and_true, true_and, implies_true, and_self]
    exact h1 a
theorem rx_probe (hA : rl_A n c m iv ct g st sd rc si ri IV CT NB ST SD RC SI RI) {post : Int32 → St2 → Prop} {p : Nat} {x : Int32} {L : Nat → Nat} (hp : p < n) (hL : rl_IsL n (rl_tp ct (rl_or (rl_dn U) n ||| x)) (rl_C m iv ct g st sd rc si ri) L)
    (h0 : L p < ct p → ∀ LN', post (nI (g p (L p))) (nI n, nI c, nI m, vX, IV, U, CT, NB, SV, ST, SD, RC, PL, SI, RI, LN', ND, SE)) (h1 : ¬ L p < ct p → ∀ LN', post 1000 (nI n, nI c, nI m, vX, IV, U, CT, NB, SV, ST, SD, RC, PL, SI, RI, LN', ND, SE)) : wpX_probe post (nI n, nI c, nI m, vX, IV, U, CT, NB, SV, ST, SD, RC, PL, SI, RI, LN, ND, SE) x (nI p) := by
  have hA' := hA
  obtain ⟨hW, hIV, hCT, hNB, hST, hSD, hRC, hSI, hRI⟩ := hA'
  have hW' := hW
  obtain ⟨⟨⟨n2, n4⟩, ⟨c3h, c8⟩, ⟨m4, m16⟩⟩, hS, hM, hB⟩ := hW'
  obtain ⟨s1, s2, s3, s4, s5⟩ := hS p hp
  have hG := rl_G_100 hS (L p) hp
  simp only [wpX_probe]
  refine rx_bad hp n4 ?_
  refine br_t rfl ?_
  refine rx_down n4 ?_
  try dsimp only
  refine rx_find hA hL (fun LN1 r1 => ?_)
  try dsimp only
  have h10 : ¬ (1 : Int32) = 0 := by decide
  refine rx_isNow (v := iv p) (y := rl_G ct g iv p (L p)) (by omega) (by omega) (by omega) (hIV p) (r1 p hp) (fun a => ?_) (fun a => ?_)
  · have hc : ¬ L p < ct p := by
      intro z
      rw [rl_G_in z] at a
      have := s4 _ z
      omega
    exact br_f h10 (h1 hc LN1)
  · have hc : L p < ct p := by
      by_cases z : L p < ct p
      · exact z
      · rw [rl_G_now z] at a; omega
    have hln := r1 p hp
    rw [rl_G_in hc] at hln
    simp (disch := omega) only [hln, forall_eq, Nat.le_refl, rl_10, rl_n10, nI_leI, nI_ltI, nI_eq, vp_in_nI, nI_clamp, nI_1, nI_add, rl_lt0, rl_0le, rl_eq0, rl_eq1, rl_eq2, rl_m1, rl_m8, rl_m100, rl_vb0, rl_vb1, true_implies, forall_const, not_true_eq_false, not_false_eq_true, false_implies, and_true, true_and, implies_true, and_self]
    exact h0 hc LN1
theorem rx_needed (hA : rl_A n c m iv ct g st sd rc si ri IV CT NB ST SD RC SI RI) {post : Int32 → St2 → Prop} {p k : Nat} (hp : p < n) (hk : k < ct p) {Ls : Int32 → Nat → Nat} (hL : ∀ T, rl_IsL n (rl_tp ct T) (rl_C m iv ct g st sd rc si ri) (Ls T))
    (hN : rl_Nd (rl_or (rl_dn U) n) Ls (2 ^ n) p k) (h : ∀ LN' ND' SE', post 1 (nI n, nI c, nI m, vX, IV, U, CT, NB, SV, ST, SD, RC, PL, SI, RI, LN', ND', SE')) : wpX_needed post (nI n, nI c, nI m, vX, IV, U, CT, NB, SV, ST, SD, RC, PL, SI, RI, LN, ND, SE) (nI p) (nI (g p k)) := by
  have hA' := hA
  obtain ⟨hW, hIV, hCT, hNB, hST, hSD, hRC, hSI, hRI⟩ := hA'
  have hW' := hW
  obtain ⟨⟨⟨n2, n4⟩, ⟨c3h, c8⟩, ⟨m4, m16⟩⟩, hS, hM, hB⟩ := hW'
  obtain ⟨s1, s2, s3, s4, s5⟩ := hS p hp
  simp only [wpX_needed]
  refine rx_bad hp n4 ?_
  refine br_t rfl ?_
  refine rx_cellOf (K := ct p) (gp := g p) (by omega) (by omega) (hCT p) (hNB p hp) (fun j hj ej => ?_) (fun hn => absurd rfl (hn k hk))
  have g1 := s4 j hj
  have g2 := s4 k hk
  have ej2 : g p j = g p k := (nI_eq (by omega) (by omega)).mp ej
  have ejk : j = k := by
    rcases Nat.lt_trichotomy j k with z | z | z
    · have := s3 _ _ z hk; omega
    · exact z
    · have := s3 _ _ z hj; omega
  have hne4 := rl_ne4 (a := p * 8 + j) (by omega)
  refine br_f hne4 ?_
  refine rx_mns hA hL (fun LN1 ND1 SE1 r1 r2 => ?_)
  have hr := r1 p hp k hk
  have a : ¬ ND1 (p * 8 + k) = 0 := hr.mpr hN
  rw [ejk]
  simp (disch := omega) only [a, forall_eq, Nat.le_refl, rl_10, rl_n10, nI_leI, nI_ltI, nI_eq, vp_in_nI, nI_clamp, nI_1, nI_add, rl_lt0, rl_0le, rl_eq0, rl_eq1, rl_eq2, rl_m1, rl_m8, rl_m100, rl_vb0, rl_vb1, true_implies, forall_const, not_true_eq_false, not_false_eq_true, false_implies, and_true, true_and, implies_true, and_self]
  exact h LN1 ND1 SE1
end
