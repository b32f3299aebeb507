section
variable {n c m : Nat} {iv ct st sd rc si ri : Nat → Nat} {g : Nat → Nat → Nat}
variable {vX IV U CT NB SV ST SD RC PL SI RI LN ND SE : Nat → Int32}
theorem rx_start_l (hA : rl_A n c m iv ct g st sd rc si ri IV CT NB ST SD RC SI RI) {post : St2 → Prop} {T : Int32} (hpost : ∀ LN', (∀ q, q < n → LN' q = nI (rl_G ct g iv q (rl_tp ct T q))) → post (nI n, nI c, nI m, vX, IV, U, CT, NB, SV, ST, SD, RC, PL, SI, RI, LN', ND, SE)) :
    ∀ (fu p : Nat) (LN : Nat → Int32), n < fu + p → p ≤ n → (∀ q, q < p → LN q = nI (rl_G ct g iv q (rl_tp ct T q))) → wX_startLine_2 post T (nI n) (nI c) (nI m) fu (nI p) vX IV U CT NB SV ST SD RC PL SI RI LN ND SE := by
  have hA' := hA
  obtain ⟨hW, hIV, hCT, hNB, hST, hSD, hRC, hSI, hRI⟩ := hA'
  have hW' := hW
  obtain ⟨⟨⟨n2, n4⟩, ⟨c3, c8⟩, ⟨m4, m16⟩⟩, hS, hM, hB⟩ := hW'
  intro fu
  induction fu with
  | zero => intro p LN q1 q2; omega
  | succ fu ih =>
    intro p LN q1 q2 q3
    by_cases e : n ≤ p
    · simp (disch := omega) only [wX_startLine_2, e, forall_eq, Nat.le_refl, rl_10, rl_n10, nI_leI, nI_ltI, nI_eq, vp_in_nI, nI_clamp, nI_1, nI_add, rl_lt0, rl_0le, rl_eq0, rl_eq1, rl_eq2, rl_m1, rl_m8, rl_m100, rl_vb0, rl_vb1, true_implies, forall_const, not_true_eq_false, not_false_eq_true, false_implies, and_true, true_and, implies_true, and_self]
      exact hpost LN (fun q hq => q3 q (by omega))
    · have hp : p < n := by omega
      obtain ⟨s1, s2, s3, s4, s5⟩ := hS p hp
      by_cases l : (T &&& ((1 : Int32) <<< (nI p &&& 31))) = 0
      · have ht : rl_tp ct T p = ct p := if_pos l
        simp (disch := omega) only [wX_startLine_2, e, l, hIV, forall_eq, Nat.le_refl, rl_10, rl_n10, nI_leI, nI_ltI, nI_eq, vp_in_nI, nI_clamp, nI_1, nI_add, rl_lt0, rl_0le, rl_eq0, rl_eq1, rl_eq2, rl_m1, rl_m8, rl_m100, rl_vb0, rl_vb1, true_implies, forall_const, not_true_eq_false, not_false_eq_true, false_implies, and_true, true_and, implies_true, and_self]
        refine ih (p + 1) _ (by omega) (by omega) (fun q hq => ?_)
        by_cases qe : q = p
        · rw [qe, pk_us, ht, rl_G_now (by omega)]
        · rw [pk_un qe]; exact q3 q (by omega)
      · have ht : rl_tp ct T p = ct p - 1 := if_neg l
        have hg := s4 (ct p - 1) (by omega)
        simp (disch := omega) only [wX_startLine_2, e, l, forall_eq, Nat.le_refl, rl_10, rl_n10, nI_leI, nI_ltI, nI_eq, vp_in_nI, nI_clamp, nI_1, nI_add, rl_lt0, rl_0le, rl_eq0, rl_eq1, rl_eq2, rl_m1, rl_m8, rl_m100, rl_vb0, rl_vb1, true_implies, forall_const, not_true_eq_false, not_false_eq_true, false_implies, and_true, true_and, implies_true, and_self]
        refine rx_newest hA (k0 := ct p - 1) (b := 99) hp (by decide) (by omega) (by omega) (fun j hj _ => by omega) ?_
        try simp (disch := omega) only [forall_eq, Nat.le_refl, rl_10, rl_n10, nI_leI, nI_ltI, nI_eq, vp_in_nI, nI_clamp, nI_1, nI_add, rl_lt0, rl_0le, rl_eq0, rl_eq1, rl_eq2, rl_m1, rl_m8, rl_m100, rl_vb0, rl_vb1, true_implies, forall_const, not_true_eq_false, not_false_eq_true, false_implies, and_true, true_and, implies_true, and_self]
        refine ih (p + 1) _ (by omega) (by omega) (fun q hq => ?_)
        by_cases qe : q = p
        · rw [qe, pk_us, ht, rl_G_in (by omega)]
        · rw [pk_un qe]; exact q3 q (by omega)
theorem rx_start (hA : rl_A n c m iv ct g st sd rc si ri IV CT NB ST SD RC SI RI) {post : St2 → Prop} {T : Int32} (hpost : ∀ LN', (∀ q, q < n → LN' q = nI (rl_G ct g iv q (rl_tp ct T q))) → post (nI n, nI c, nI m, vX, IV, U, CT, NB, SV, ST, SD, RC, PL, SI, RI, LN', ND, SE)) :
    wpX_startLine post (nI n, nI c, nI m, vX, IV, U, CT, NB, SV, ST, SD, RC, PL, SI, RI, LN, ND, SE) T := by
  simp only [wpX_startLine]
  exact ⟨n + 1, rx_start_l hA hpost (n + 1) 0 LN (by omega) (by omega) (fun q hq => by omega)⟩
theorem rx_lower_l (hA : rl_A n c m iv ct g st sd rc si ri IV CT NB ST SD RC SI RI) {post : Int32 → St2 → Prop} {T : Int32} {L κ0 : Nat → Nat} (hL : rl_IsL n (rl_tp ct T) (rl_C m iv ct g st sd rc si ri) L)
    (hpost : ∀ (r : Int32) (LN' : Nat → Int32) (κ : Nat → Nat), (∀ q, q < n → LN' q = nI (rl_G ct g iv q (κ q))) → rl_le n κ (rl_tp ct T) → rl_le n L κ →
      ((r = 0 ∧ rl_C m iv ct g st sd rc si ri κ) ∨ (r = 1 ∧ rl_sum κ n < rl_sum κ0 n)) → post r (nI n, nI c, nI m, vX, IV, U, CT, NB, SV, ST, SD, RC, PL, SI, RI, LN', ND, SE)) :
    ∀ (fu s : Nat) (x1 : Int32) (LN : Nat → Int32) (κ : Nat → Nat), m < fu + s → s ≤ m → (∀ q, q < n → LN q = nI (rl_G ct g iv q (κ q))) → rl_le n κ (rl_tp ct T) → rl_le n L κ →
      ((x1 = 0 ∧ rl_sum κ n = rl_sum κ0 n ∧ ∀ j, j < s → st j = 2 → ri j < rl_G ct g iv (rc j) (κ (rc j)) → si j < rl_G ct g iv (sd j) (κ (sd j))) ∨ (x1 = 1 ∧ rl_sum κ n < rl_sum κ0 n)) →
      wX_lowerLine_4 post (nI n) (nI c) (nI m) fu x1 (nI s) vX IV U CT NB SV ST SD RC PL SI RI LN ND SE := by
  have hA' := hA
  obtain ⟨hW, hIV, hCT, hNB, hST, hSD, hRC, hSI, hRI⟩ := hA'
  have hW' := hW
  obtain ⟨⟨⟨n2, n4⟩, ⟨c3, c8⟩, ⟨m4, m16⟩⟩, hS, hM, hB⟩ := hW'
  intro fu
  induction fu with
  | zero => intro s x1 LN κ q1 q2; omega
  | succ fu ih =>
    intro s x1 LN κ q1 q2 q3 q4 q5 q6
    have hx1 : narrow .boolean (.int x1) = .int x1 := rl_nb01 (by rcases q6 with q | q; exact Or.inl q.1; exact Or.inr q.1)
    by_cases e : m ≤ s
    · simp (disch := omega) only [wX_lowerLine_4, e, hx1, forall_eq, Nat.le_refl, rl_10, rl_n10, nI_leI, nI_ltI, nI_eq, vp_in_nI, nI_clamp, nI_1, nI_add, rl_lt0, rl_0le, rl_eq0, rl_eq1, rl_eq2, rl_m1, rl_m8, rl_m100, rl_vb0, rl_vb1, true_implies, forall_const, not_true_eq_false, not_false_eq_true, false_implies, and_true, true_and, implies_true, and_self]
      refine hpost x1 LN κ q3 q4 q5 ?_
      rcases q6 with ⟨a, _, b⟩ | q
      · exact Or.inl ⟨a, fun j hj => b j (by omega)⟩
      · exact Or.inr q
    · have hs : s < m := by omega
      obtain ⟨t1, t2, t3, t4, t5⟩ := hM.1 s
      have h100 : ∀ p, p < n → rl_G ct g iv p (κ p) ≤ 100 := fun p hp => rl_G_100 hS (κ p) hp
      simp (disch := omega) only [wX_lowerLine_4, e, forall_eq, Nat.le_refl, rl_10, rl_n10, nI_leI, nI_ltI, nI_eq, vp_in_nI, nI_clamp, nI_1, nI_add, rl_lt0, rl_0le, rl_eq0, rl_eq1, rl_eq2, rl_m1, rl_m8, rl_m100, rl_vb0, rl_vb1, true_implies, forall_const, not_true_eq_false, not_false_eq_true, false_implies, and_true, true_and, implies_true, and_self]
      refine rx_orphan hA (x := fun p => rl_G ct g iv p (κ p)) hs q3 h100 (fun a1 a2 a3 => ?_) (fun a => ?_)
      · obtain ⟨k, b1, b2, b3, b4, b5, b6⟩ := rl_lowk hS hM hL q4 q5 hs a1 a2 a3
        simp (disch := omega) only [hRC, hRI, forall_eq, Nat.le_refl, rl_10, rl_n10, nI_leI, nI_ltI, nI_eq, vp_in_nI, nI_clamp, nI_1, nI_add, rl_lt0, rl_0le, rl_eq0, rl_eq1, rl_eq2, rl_m1, rl_m8, rl_m100, rl_vb0, rl_vb1, true_implies, forall_const, not_true_eq_false, not_false_eq_true, false_implies, and_true, true_and, implies_true, and_self]
        refine rx_newest hA (k0 := k) (b := ri s) t3 (by omega) b1 b2 b3 ?_
        try simp (disch := omega) only [forall_eq, Nat.le_refl, rl_10, rl_n10, nI_leI, nI_ltI, nI_eq, vp_in_nI, nI_clamp, nI_1, nI_add, rl_lt0, rl_0le, rl_eq0, rl_eq1, rl_eq2, rl_m1, rl_m8, rl_m100, rl_vb0, rl_vb1, true_implies, forall_const, not_true_eq_false, not_false_eq_true, false_implies, and_true, true_and, implies_true, and_self]
        refine ih (s + 1) _ _ (rl_u κ (rc s) k) (by omega) (by omega) (fun q hq => ?_) b4 b5 (Or.inr ⟨rfl, ?_⟩)
        · by_cases qe : q = rc s
          · rw [qe, pk_us, rl_us, rl_G_in b1]
          · rw [pk_un qe, rl_un qe]; exact q3 q hq
        · rcases q6 with ⟨_, b, _⟩ | q <;> omega
      · try simp (disch := omega) only [forall_eq, Nat.le_refl, rl_10, rl_n10, nI_leI, nI_ltI, nI_eq, vp_in_nI, nI_clamp, nI_1, nI_add, rl_lt0, rl_0le, rl_eq0, rl_eq1, rl_eq2, rl_m1, rl_m8, rl_m100, rl_vb0, rl_vb1, true_implies, forall_const, not_true_eq_false, not_false_eq_true, false_implies, and_true, true_and, implies_true, and_self]
        refine ih (s + 1) _ _ κ (by omega) (by omega) q3 q4 q5 ?_
        rcases q6 with ⟨d1, d2, d3⟩ | q
        · refine Or.inl ⟨d1, d2, fun j hj => ?_⟩
          by_cases qe : j = s
          · rw [qe]; exact a
          · exact d3 j (by omega)
        · exact Or.inr q
theorem rx_lower (hA : rl_A n c m iv ct g st sd rc si ri IV CT NB ST SD RC SI RI) {post : Int32 → St2 → Prop} {T : Int32} {L κ0 : Nat → Nat} (hL : rl_IsL n (rl_tp ct T) (rl_C m iv ct g st sd rc si ri) L)
    (h1 : ∀ q, q < n → LN q = nI (rl_G ct g iv q (κ0 q))) (h2 : rl_le n κ0 (rl_tp ct T)) (h3 : rl_le n L κ0)
    (hpost : ∀ (r : Int32) (LN' : Nat → Int32) (κ : Nat → Nat), (∀ q, q < n → LN' q = nI (rl_G ct g iv q (κ q))) → rl_le n κ (rl_tp ct T) → rl_le n L κ →
      ((r = 0 ∧ rl_C m iv ct g st sd rc si ri κ) ∨ (r = 1 ∧ rl_sum κ n < rl_sum κ0 n)) → post r (nI n, nI c, nI m, vX, IV, U, CT, NB, SV, ST, SD, RC, PL, SI, RI, LN', ND, SE)) :
    wpX_lowerLine post (nI n, nI c, nI m, vX, IV, U, CT, NB, SV, ST, SD, RC, PL, SI, RI, LN, ND, SE) := by
  simp only [wpX_lowerLine]
  exact ⟨m + 1, rx_lower_l hA hL hpost (m + 1) 0 0 LN κ0 (by omega) (by omega) h1 h2 h3 (Or.inl ⟨rfl, rfl, fun j hj => by omega⟩)⟩
theorem rx_find_l (hA : rl_A n c m iv ct g st sd rc si ri IV CT NB ST SD RC SI RI) {post : St2 → Prop} {T : Int32} {L : Nat → Nat} (hL : rl_IsL n (rl_tp ct T) (rl_C m iv ct g st sd rc si ri) L)
    (hpost : ∀ LN', (∀ q, q < n → LN' q = nI (rl_G ct g iv q (L q))) → post (nI n, nI c, nI m, vX, IV, U, CT, NB, SV, ST, SD, RC, PL, SI, RI, LN', ND, SE)) :
    ∀ (fu r : Nat) (x2 : Int32) (LN : Nat → Int32) (κ : Nat → Nat), 33 < fu + r → r ≤ 33 → (∀ q, q < n → LN q = nI (rl_G ct g iv q (κ q))) → rl_le n κ (rl_tp ct T) → rl_le n L κ →
      ((x2 = 0 ∧ rl_C m iv ct g st sd rc si ri κ) ∨ (x2 = 1 ∧ rl_sum κ n + r ≤ 32)) → wX_findLine_9 post fu x2 (nI r) (nI n) (nI c) (nI m) vX IV U CT NB SV ST SD RC PL SI RI LN ND SE := by
  intro fu
  induction fu with
  | zero => intro r x2 LN κ q1 q2; omega
  | succ fu ih =>
    intro r x2 LN κ q1 q2 q3 q4 q5 q6
    rcases q6 with ⟨a, b⟩ | ⟨a, b⟩
    · have hk := rl_IsL_uq hL q4 b q5
      simp (disch := omega) only [wX_findLine_9, a, forall_eq, Nat.le_refl, rl_10, rl_n10, nI_leI, nI_ltI, nI_eq, vp_in_nI, nI_clamp, nI_1, nI_add, rl_lt0, rl_0le, rl_eq0, rl_eq1, rl_eq2, rl_m1, rl_m8, rl_m100, rl_vb0, rl_vb1, true_implies, forall_const, not_true_eq_false, not_false_eq_true, false_implies, and_true, true_and, implies_true, and_self]
      exact hpost LN (fun q hq => by rw [← hk q hq]; exact q3 q hq)
    · have h33 : ¬ 33 ≤ r := by omega
      have h10 : ¬ (1 : Int32) = 0 := by decide
      simp (disch := omega) only [wX_findLine_9, a, h33, h10, rl_33, forall_eq, Nat.le_refl, rl_10, rl_n10, nI_leI, nI_ltI, nI_eq, vp_in_nI, nI_clamp, nI_1, nI_add, rl_lt0, rl_0le, rl_eq0, rl_eq1, rl_eq2, rl_m1, rl_m8, rl_m100, rl_vb0, rl_vb1, true_implies, forall_const, not_true_eq_false, not_false_eq_true, false_implies, and_true, true_and, implies_true, and_self]
      refine rx_lower hA hL q3 q4 q5 (fun r2 LN2 κ2 c1 c2 c3 c4 => ?_)
      try simp (disch := omega) only [forall_eq, Nat.le_refl, rl_10, rl_n10, nI_leI, nI_ltI, nI_eq, vp_in_nI, nI_clamp, nI_1, nI_add, rl_lt0, rl_0le, rl_eq0, rl_eq1, rl_eq2, rl_m1, rl_m8, rl_m100, rl_vb0, rl_vb1, true_implies, forall_const, not_true_eq_false, not_false_eq_true, false_implies, and_true, true_and, implies_true, and_self]
      refine ih (r + 1) _ _ κ2 (by omega) (by omega) c1 c2 c3 ?_
      rcases c4 with c4 | c4
      · exact Or.inl c4
      · exact Or.inr ⟨c4.1, by omega⟩
theorem rx_find (hA : rl_A n c m iv ct g st sd rc si ri IV CT NB ST SD RC SI RI) {post : St2 → Prop} {T : Int32} {L : Nat → Nat} (hL : rl_IsL n (rl_tp ct T) (rl_C m iv ct g st sd rc si ri) L)
    (hpost : ∀ LN', (∀ q, q < n → LN' q = nI (rl_G ct g iv q (L q))) → post (nI n, nI c, nI m, vX, IV, U, CT, NB, SV, ST, SD, RC, PL, SI, RI, LN', ND, SE)) : wpX_findLine post (nI n, nI c, nI m, vX, IV, U, CT, NB, SV, ST, SD, RC, PL, SI, RI, LN, ND, SE) T := by
  have hA' := hA
  obtain ⟨hW, hIV, hCT, hNB, hST, hSD, hRC, hSI, hRI⟩ := hA'
  have hW' := hW
  obtain ⟨⟨⟨n2, n4⟩, ⟨c3, c8⟩, ⟨m4, m16⟩⟩, hS, hM, hB⟩ := hW'
  simp only [wpX_findLine]
  refine rx_start hA (fun LN1 h1 => ?_)
  have hsum : rl_sum (rl_tp ct T) n ≤ 32 := by
    have a1 := rl_sum_le (a := rl_tp ct T) (b := fun _ => 8) n (fun p hp => by have := rl_tp_le ct T p; have := (hS p hp).2.1; show rl_tp ct T p ≤ 8; omega)
    rw [rl_sum_c] at a1
    omega
  exact ⟨34, rx_find_l hA hL hpost 34 0 1 LN1 (rl_tp ct T) (by omega) (by omega) h1 (fun p _ => Nat.le_refl _) hL.1 (Or.inr ⟨rfl, by omega⟩)⟩
end
