section
variable {n c m : Nat} {iv ct st sd rc si ri : Nat → Nat} {g : Nat → Nat → Nat}
variable {vY IV U TB TS ST SD RC PL SI RI CP KP SL : Nat → Int32}
theorem ry_inner (hB : rl_AY n c m iv ct g st sd rc si ri IV TB ST SD RC SI RI) {post : SY → Prop} {J : Int32 → (Nat → Int32) → (Nat → Int32) → (Nat → Int32) → (Nat → Int32) → (Nat → Int32) → (Nat → Int32) → (Nat → Int32) → (Nat → Int32) → (Nat → Int32) → (Nat → Int32) → (Nat → Int32) → (Nat → Int32) → (Nat → Int32) → (Nat → Int32) → Prop} {T x2 : Int32} :
    ∀ (i fu : Nat) (x4 : Int32) (CP : Nat → Int32) (κ : Nat → Nat), i ≤ n → i < fu → x4 = nI i - 1 → (∀ q, q < n → CP q = nI (rl_G ct g iv q (κ q))) → rl_le n κ (rl_tp ct T) → 0 < rl_cd (rl_tp ct T) κ i →
      (∀ (CP' : Nat → Int32) (κ' : Nat → Nat), (∀ q, q < n → CP' q = nI (rl_G ct g iv q (κ' q))) → rl_le n κ' (rl_tp ct T) → (∀ q, i ≤ q → κ' q = κ q) → rl_cd (rl_tp ct T) κ' i + 1 = rl_cd (rl_tp ct T) κ i →
        J (x2 + 1) vY IV U TB TS ST SD RC PL SI RI CP' KP SL) →
      wY_line_55 post J T x2 (nI n) (nI c) (nI m) fu 0 x4 vY IV U TB TS ST SD RC PL SI RI CP KP SL := by
  have hB' := hB
  obtain ⟨hW, hIV, hT, hST, hSD, hRC, hSI, hRI⟩ := hB'
  have hW' := hW
  obtain ⟨⟨⟨n2, n4⟩, ⟨c3, c8⟩, ⟨m4, m16⟩⟩, hS, hM, _⟩ := hW'
  intro i
  induction i with
  | zero => intro fu x4 CP κ q1 q2 q3 q4 q5 q6; exact absurd q6 (by show ¬ 0 < 0; omega)
  | succ i ih =>
    intro fu x4 CP κ q1 q2 q3 q4 q5 q6 q7
    obtain ⟨fu, rfl⟩ : ∃ f, fu = f + 1 := ⟨fu - 1, by omega⟩
    have hi : i < n := by omega
    have hx : x4 = nI i := by rw [q3]; exact nI_pred i
    have hki := q5 i hi
    have htc := rl_tp_le ct T i
    have h100 : ∀ k, rl_G ct g iv i k ≤ 100 := fun k => rl_G_100 hS k hi
    have h1 := h100 (κ i)
    have hcp := q4 i hi
    have hsub : nI i + (-1) = nI i - 1 := (Int32.sub_eq_add_neg (nI i) 1).symm
    rw [hx]
    simp (disch := omega) only [wY_line_55, hcp, forall_eq, Nat.le_refl, rl_10, rl_n10, nI_leI, nI_ltI, nI_eq, vp_in_nI, nI_clamp, nI_1, nI_add, rl_lt0, rl_0le, rl_eq0, rl_eq1, rl_eq2, rl_m1, rl_m8, rl_m100, rl_vb0, rl_vb1, true_implies, forall_const, not_true_eq_false, not_false_eq_true, false_implies, and_true, true_and, implies_true, and_self]
    refine ry_lower hB hi (k := κ i) (by omega) (fun z => ?_) (fun j hj => ?_)
    · have hm1 : (-1 : Int32) < 0 := by decide
      have hm2 : ¬ (0 : Int32) ≤ -1 := by decide
      simp (disch := omega) only [hm1, hm2, forall_eq, Nat.le_refl, rl_10, rl_n10, nI_leI, nI_ltI, nI_eq, vp_in_nI, nI_clamp, nI_1, nI_add, rl_lt0, rl_0le, rl_eq0, rl_eq1, rl_eq2, rl_m1, rl_m8, rl_m100, rl_vb0, rl_vb1, true_implies, forall_const, not_true_eq_false, not_false_eq_true, false_implies, and_true, true_and, implies_true, and_self]
      refine ry_top hB hi ?_
      simp (disch := omega) only [hsub, forall_eq, Nat.le_refl, rl_10, rl_n10, nI_leI, nI_ltI, nI_eq, vp_in_nI, nI_clamp, nI_1, nI_add, rl_lt0, rl_0le, rl_eq0, rl_eq1, rl_eq2, rl_m1, rl_m8, rl_m100, rl_vb0, rl_vb1, true_implies, forall_const, not_true_eq_false, not_false_eq_true, false_implies, and_true, true_and, implies_true, and_self]
      have e1 : rl_cd (rl_tp ct T) (rl_u κ i (rl_tp ct T i)) i = rl_cd (rl_tp ct T) κ i := rl_cd_eq i (fun p hp => rl_un (by omega))
      refine ih fu _ _ (rl_u κ i (rl_tp ct T i)) (by omega) (by omega) rfl (fun q hq => ?_) (fun q hq => ?_) ?_ (fun CP' κ' r1 r2 r3 r4 => ?_)
      · by_cases qe : q = i
        · rw [qe, pk_us, rl_us]
        · rw [pk_un qe, rl_un qe]; exact q4 q hq
      · by_cases qe : q = i
        · rw [qe, rl_us]; exact Nat.le_refl _
        · rw [rl_un qe]; exact q5 q hq
      · rw [e1]; exact rl_cd_pos0 z q6
      · rw [e1] at r4
        refine q7 CP' κ' r1 r2 (fun q hq => ?_) (rl_dec_zero z (by rw [r3 i (Nat.le_refl _), rl_us]) r4)
        rw [r3 q (by omega), rl_un (by omega)]
    · have h2 := h100 j
      try simp (disch := omega) only [forall_eq, Nat.le_refl, rl_10, rl_n10, nI_leI, nI_ltI, nI_eq, vp_in_nI, nI_clamp, nI_1, nI_add, rl_lt0, rl_0le, rl_eq0, rl_eq1, rl_eq2, rl_m1, rl_m8, rl_m100, rl_vb0, rl_vb1, true_implies, forall_const, not_true_eq_false, not_false_eq_true, false_implies, and_true, true_and, implies_true, and_self]
      have hfin : J (x2 + 1) vY IV U TB TS ST SD RC PL SI RI (upd CP i (nI (rl_G ct g iv i j))) KP SL := by
        have hj' : κ i - 1 = j := by omega
        have hd := rl_dec_pos (t := rl_tp ct T) (κ := κ) (i := i) (by omega)
        rw [hj'] at hd
        refine q7 _ (rl_u κ i j) (fun q hq => ?_) (fun q hq => ?_) (fun q hq => rl_un (by omega)) hd
        · by_cases qe : q = i
          · rw [qe, pk_us, rl_us]
          · rw [pk_un qe, rl_un qe]; exact q4 q hq
        · by_cases qe : q = i
          · rw [qe, rl_us]; omega
          · rw [rl_un qe]; exact q5 q hq
      obtain ⟨fu, rfl⟩ : ∃ f, fu = f + 1 := ⟨fu - 1, by omega⟩
      have h10 : ¬ (1 : Int32) = 0 := by decide
      simp only [wY_line_55, h10, forall_eq, Nat.le_refl, rl_10, rl_n10, nI_leI, nI_ltI, nI_eq, vp_in_nI, nI_clamp, nI_1, nI_add, rl_lt0, rl_0le, rl_eq0, rl_eq1, rl_eq2, rl_m1, rl_m8, rl_m100, rl_vb0, rl_vb1, true_implies, forall_const, not_true_eq_false, not_false_eq_true, false_implies, and_true, true_and, implies_true, and_self]
      exact ⟨fun _ => hfin, fun _ => hfin⟩
theorem ry_tries (hB : rl_AY n c m iv ct g st sd rc si ri IV TB ST SD RC SI RI) {post : SY → Prop} {T : Int32} {L : Nat → Nat} (hL : rl_IsL n (rl_tp ct T) (rl_C m iv ct g st sd rc si ri) L)
    (hpost : ∀ CP', (∀ q, q < n → CP' q = nI (rl_G ct g iv q (L q))) → post (nI n, nI c, nI m, vY, IV, U, TB, TS, ST, SD, RC, PL, SI, RI, CP', KP, SL)) :
    ∀ (fu t : Nat) (CP : Nat → Int32) (κ : Nat → Nat), 6561 < fu + t → (∀ q, q < n → CP q = nI (rl_G ct g iv q (κ q))) → rl_le n κ (rl_tp ct T) → rl_cd (rl_tp ct T) L n ≤ rl_cd (rl_tp ct T) κ n →
      rl_cd (rl_tp ct T) κ n + t ≤ 6560 → wY_line_30 post T (nI n) (nI c) (nI m) fu (nI t) vY IV U TB TS ST SD RC PL SI RI CP KP SL := by
  have hB' := hB
  obtain ⟨hW, hIV, hT, hST, hSD, hRC, hSI, hRI⟩ := hB'
  have hW' := hW
  obtain ⟨⟨⟨n2, n4⟩, ⟨c3, c8⟩, ⟨m4, m16⟩⟩, hS, hM, _⟩ := hW'
  intro fu
  induction fu with
  | zero => intro t CP κ q1 q2 q3 q4 q5; omega
  | succ fu ih =>
    intro t CP κ q1 q2 q3 q4 q5
    have e : ¬ 6561 ≤ t := by omega
    have h10 : ¬ (1 : Int32) = 0 := by decide
    simp (disch := omega) only [wY_line_30, rl_6561, e, forall_eq, Nat.le_refl, rl_10, rl_n10, nI_leI, nI_ltI, nI_eq, vp_in_nI, nI_clamp, nI_1, nI_add, rl_lt0, rl_0le, rl_eq0, rl_eq1, rl_eq2, rl_m1, rl_m8, rl_m100, rl_vb0, rl_vb1, true_implies, forall_const, not_true_eq_false, not_false_eq_true, false_implies, and_true, true_and, implies_true, and_self]
    refine ry_cons hB q2 (fun a => ?_) (fun a => ?_)
    · simp (disch := omega) only [h10, forall_eq, Nat.le_refl, rl_10, rl_n10, nI_leI, nI_ltI, nI_eq, vp_in_nI, nI_clamp, nI_1, nI_add, rl_lt0, rl_0le, rl_eq0, rl_eq1, rl_eq2, rl_m1, rl_m8, rl_m100, rl_vb0, rl_vb1, true_implies, forall_const, not_true_eq_false, not_false_eq_true, false_implies, and_true, true_and, implies_true, and_self]
      have hk := rl_Y_exit hL q3 q4 a
      exact hpost CP (fun q hq => by rw [← hk q hq]; exact q2 q hq)
    · have hlt := rl_Y_step hM hL q3 q4 a
      try simp (disch := omega) only [forall_eq, Nat.le_refl, rl_10, rl_n10, nI_leI, nI_ltI, nI_eq, vp_in_nI, nI_clamp, nI_1, nI_add, rl_lt0, rl_0le, rl_eq0, rl_eq1, rl_eq2, rl_m1, rl_m8, rl_m100, rl_vb0, rl_vb1, true_implies, forall_const, not_true_eq_false, not_false_eq_true, false_implies, and_true, true_and, implies_true, and_self]
      refine ⟨n + 1, ry_inner hB n (n + 1) _ CP κ (Nat.le_refl _) (by omega) rfl q2 q3 (by omega) (fun CP' κ' r1 r2 _ r4 => ?_)⟩
      try simp (disch := omega) only [forall_eq, Nat.le_refl, rl_10, rl_n10, nI_leI, nI_ltI, nI_eq, vp_in_nI, nI_clamp, nI_1, nI_add, rl_lt0, rl_0le, rl_eq0, rl_eq1, rl_eq2, rl_m1, rl_m8, rl_m100, rl_vb0, rl_vb1, true_implies, forall_const, not_true_eq_false, not_false_eq_true, false_implies, and_true, true_and, implies_true, and_self]
      exact ih (t + 1) CP' κ' (by omega) r1 r2 (by omega) (by omega)
theorem ry_line_l (hB : rl_AY n c m iv ct g st sd rc si ri IV TB ST SD RC SI RI) {post : SY → Prop} {T : Int32} {L : Nat → Nat} (hL : rl_IsL n (rl_tp ct T) (rl_C m iv ct g st sd rc si ri) L)
    (hpost : ∀ CP', (∀ q, q < n → CP' q = nI (rl_G ct g iv q (L q))) → post (nI n, nI c, nI m, vY, IV, U, TB, TS, ST, SD, RC, PL, SI, RI, CP', KP, SL)) :
    ∀ (fu p : Nat) (CP : Nat → Int32), n < fu + p → p ≤ n → (∀ q, q < p → CP q = nI (rl_G ct g iv q (rl_tp ct T q))) → wY_line_2 post T (nI n) (nI c) (nI m) fu (nI p) vY IV U TB TS ST SD RC PL SI RI CP KP SL := by
  have hB' := hB
  obtain ⟨hW, hIV, hT, hST, hSD, hRC, hSI, hRI⟩ := hB'
  have hW' := hW
  obtain ⟨⟨⟨n2, n4⟩, ⟨c3, c8⟩, ⟨m4, m16⟩⟩, hS, hM, _⟩ := hW'
  intro fu
  induction fu with
  | zero => intro p CP q1 q2; omega
  | succ fu ih =>
    intro p CP q1 q2 q3
    by_cases e : n ≤ p
    · have e2 : p = n := by omega
      rw [e2] at q3
      simp (disch := omega) only [wY_line_2, e, forall_eq, Nat.le_refl, rl_10, rl_n10, nI_leI, nI_ltI, nI_eq, vp_in_nI, nI_clamp, nI_1, nI_add, rl_lt0, rl_0le, rl_eq0, rl_eq1, rl_eq2, rl_m1, rl_m8, rl_m100, rl_vb0, rl_vb1, true_implies, forall_const, not_true_eq_false, not_false_eq_true, false_implies, and_true, true_and, implies_true, and_self]
      have hlt := rl_cd_lt (t := rl_tp ct T) (a := rl_tp ct T) n (fun p hp => by have := rl_tp_le ct T p; have := (hS p hp).2.1; omega) (fun p _ => Nat.le_refl _)
      have h9 := rl_9 n4
      exact ⟨6562, ry_tries hB hL hpost 6562 0 CP (rl_tp ct T) (by omega) q3 (fun p _ => Nat.le_refl _) (rl_cd_mono n hL.1) (by omega)⟩
    · have hp : p < n := by omega
      simp (disch := omega) only [wY_line_2, e, forall_eq, Nat.le_refl, rl_10, rl_n10, nI_leI, nI_ltI, nI_eq, vp_in_nI, nI_clamp, nI_1, nI_add, rl_lt0, rl_0le, rl_eq0, rl_eq1, rl_eq2, rl_m1, rl_m8, rl_m100, rl_vb0, rl_vb1, true_implies, forall_const, not_true_eq_false, not_false_eq_true, false_implies, and_true, true_and, implies_true, and_self]
      refine ry_top hB hp ?_
      try simp (disch := omega) only [forall_eq, Nat.le_refl, rl_10, rl_n10, nI_leI, nI_ltI, nI_eq, vp_in_nI, nI_clamp, nI_1, nI_add, rl_lt0, rl_0le, rl_eq0, rl_eq1, rl_eq2, rl_m1, rl_m8, rl_m100, rl_vb0, rl_vb1, true_implies, forall_const, not_true_eq_false, not_false_eq_true, false_implies, and_true, true_and, implies_true, and_self]
      refine ih (p + 1) _ (by omega) (by omega) (fun q hq => ?_)
      by_cases qe : q = p
      · rw [qe, pk_us]
      · rw [pk_un qe]; exact q3 q (by omega)
theorem ry_line (hB : rl_AY n c m iv ct g st sd rc si ri IV TB ST SD RC SI RI) {post : SY → Prop} {T : Int32} {L : Nat → Nat} (hL : rl_IsL n (rl_tp ct T) (rl_C m iv ct g st sd rc si ri) L)
    (hpost : ∀ CP', (∀ q, q < n → CP' q = nI (rl_G ct g iv q (L q))) → post (nI n, nI c, nI m, vY, IV, U, TB, TS, ST, SD, RC, PL, SI, RI, CP', KP, SL)) : wpY_line post (nI n, nI c, nI m, vY, IV, U, TB, TS, ST, SD, RC, PL, SI, RI, CP, KP, SL) T := by
  simp only [wpY_line]
  exact ⟨n + 1, ry_line_l hB hL hpost (n + 1) 0 CP (by omega) (by omega) (fun q hq => absurd hq (by omega))⟩
end
