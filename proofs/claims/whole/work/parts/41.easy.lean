theorem i_vc_step {k : Nat} {u : SX} {v : SY} (I : i_Rel k u v) (hk : k + 3 ≤ 1539) (v1 : Int32) (v2 : Int32) : wpX_step (fun r u' => wpY_step (fun r' v' => r' = r ∧ i_Rel (k + 3) u' v') v v1 v2) u v1 v2 := by
  obtain ⟨n, c, m, iv, ct, st, sd, rc, si, ri, g, vX, vY, IV, U, CT, NB, SV, TB, TS, ST, SD, RC, PL, SI, RI, LN, ND, SE, CP, KP, SL, rfl, rfl, hR⟩ := I
  have hR' := hR
  obtain ⟨hA, hTab, hU, hV⟩ := hR'
  have hA' := hA
  obtain ⟨hW, hIV, hCT, hNB, hST, hSD, hRC, hSI, hRI⟩ := hA'
  have hW' := hW
  obtain ⟨⟨⟨n2, n4⟩, ⟨c3, c8⟩, ⟨m4, m16⟩⟩, hS, hM, _⟩ := hW'
  have h10 : ¬ (1 : Int32) = 0 := by decide
  rcases pk_ix v1 (show n < 2 ^ 31 by omega) with h | h | ⟨p, hp, rfl⟩
  · simp only [wpX_step]
    refine rx_badN h ?_
    refine br_f h10 ?_
    simp only [wpY_step]
    refine ry_badN h ?_
    exact br_f h10 ⟨by trivial, rl_mk hR⟩
  · simp only [wpX_step]
    refine rx_badG h ?_
    refine br_f h10 ?_
    simp only [wpY_step]
    refine ry_badG h ?_
    exact br_f h10 ⟨by trivial, rl_mk hR⟩
  · by_cases a : U p = 0
    · simp only [wpX_step]
      refine rx_bad hp n4 ?_
      simp (disch := omega) only [a, wpY_step, forall_eq, Nat.le_refl, rl_10, rl_n10, nI_leI, nI_ltI, nI_eq, vp_in_nI, nI_clamp, nI_1, nI_add, rl_lt0, rl_0le, rl_eq0, rl_eq1, rl_eq2, rl_m1, rl_m8, rl_m100, rl_vb0, rl_vb1, true_implies, forall_const, not_true_eq_false, not_false_eq_true, false_implies, and_true, true_and, implies_true, and_self]
      refine ry_bad hp n4 ?_
      simp (disch := omega) only [a, forall_eq, Nat.le_refl, rl_10, rl_n10, nI_leI, nI_ltI, nI_eq, vp_in_nI, nI_clamp, nI_1, nI_add, rl_lt0, rl_0le, rl_eq0, rl_eq1, rl_eq2, rl_m1, rl_m8, rl_m100, rl_vb0, rl_vb1, true_implies, forall_const, not_true_eq_false, not_false_eq_true, false_implies, and_true, true_and, implies_true, and_self]
      exact rl_mk hR
    · simp only [wpX_step]
      refine rx_bad hp n4 ?_
      simp (disch := omega) only [a, wpX_mixIn, wpY_step, forall_eq, Nat.le_refl, rl_10, rl_n10, nI_leI, nI_ltI, nI_eq, vp_in_nI, nI_clamp, nI_1, nI_add, rl_lt0, rl_0le, rl_eq0, rl_eq1, rl_eq2, rl_m1, rl_m8, rl_m100, rl_vb0, rl_vb1, true_implies, forall_const, not_true_eq_false, not_false_eq_true, false_implies, and_true, true_and, implies_true, and_self]
      refine ry_bad hp n4 ?_
      simp (disch := omega) only [a, forall_eq, Nat.le_refl, rl_10, rl_n10, nI_leI, nI_ltI, nI_eq, vp_in_nI, nI_clamp, nI_1, nI_add, rl_lt0, rl_0le, rl_eq0, rl_eq1, rl_eq2, rl_m1, rl_m8, rl_m100, rl_vb0, rl_vb1, true_implies, forall_const, not_true_eq_false, not_false_eq_true, false_implies, and_true, true_and, implies_true, and_self]
      refine rl_mk ⟨hA, hTab, hU, fun q hq hu => ?_⟩
      by_cases e : q = p
      · rw [e, pk_us, pk_us, hV p hp a]
      · rw [pk_un e, pk_un e]; exact hV q hq hu
theorem i_vc_crash {k : Nat} {u : SX} {v : SY} (I : i_Rel k u v) (hk : k + 3 ≤ 1539) (v1 : Int32) : wpX_crash (fun r u' => wpY_crash (fun r' v' => r' = r ∧ i_Rel (k + 3) u' v') v v1) u v1 := by
  obtain ⟨n, c, m, iv, ct, st, sd, rc, si, ri, g, vX, vY, IV, U, CT, NB, SV, TB, TS, ST, SD, RC, PL, SI, RI, LN, ND, SE, CP, KP, SL, rfl, rfl, hR⟩ := I
  have hR' := hR
  obtain ⟨hA, hTab, hU, hV⟩ := hR'
  have hA' := hA
  obtain ⟨hW, hIV, hCT, hNB, hST, hSD, hRC, hSI, hRI⟩ := hA'
  have hW' := hW
  obtain ⟨⟨⟨n2, n4⟩, ⟨c3, c8⟩, ⟨m4, m16⟩⟩, hS, hM, _⟩ := hW'
  have h10 : ¬ (1 : Int32) = 0 := by decide
  rcases pk_ix v1 (show n < 2 ^ 31 by omega) with h | h | ⟨p, hp, rfl⟩
  · simp only [wpX_crash]
    refine rx_badN h ?_
    refine br_f h10 ?_
    simp only [wpY_crash]
    refine ry_badN h ?_
    exact br_f h10 ⟨by trivial, rl_mk hR⟩
  · simp only [wpX_crash]
    refine rx_badG h ?_
    refine br_f h10 ?_
    simp only [wpY_crash]
    refine ry_badG h ?_
    exact br_f h10 ⟨by trivial, rl_mk hR⟩
  · by_cases a : U p = 0
    · simp only [wpX_crash]
      refine rx_bad hp n4 ?_
      simp (disch := omega) only [a, wpY_crash, forall_eq, Nat.le_refl, rl_10, rl_n10, nI_leI, nI_ltI, nI_eq, vp_in_nI, nI_clamp, nI_1, nI_add, rl_lt0, rl_0le, rl_eq0, rl_eq1, rl_eq2, rl_m1, rl_m8, rl_m100, rl_vb0, rl_vb1, true_implies, forall_const, not_true_eq_false, not_false_eq_true, false_implies, and_true, true_and, implies_true, and_self]
      refine ry_bad hp n4 ?_
      simp (disch := omega) only [a, forall_eq, Nat.le_refl, rl_10, rl_n10, nI_leI, nI_ltI, nI_eq, vp_in_nI, nI_clamp, nI_1, nI_add, rl_lt0, rl_0le, rl_eq0, rl_eq1, rl_eq2, rl_m1, rl_m8, rl_m100, rl_vb0, rl_vb1, true_implies, forall_const, not_true_eq_false, not_false_eq_true, false_implies, and_true, true_and, implies_true, and_self]
      exact rl_mk hR
    · simp only [wpX_crash]
      refine rx_bad hp n4 ?_
      simp (disch := omega) only [a, wpY_crash, forall_eq, Nat.le_refl, rl_10, rl_n10, nI_leI, nI_ltI, nI_eq, vp_in_nI, nI_clamp, nI_1, nI_add, rl_lt0, rl_0le, rl_eq0, rl_eq1, rl_eq2, rl_m1, rl_m8, rl_m100, rl_vb0, rl_vb1, true_implies, forall_const, not_true_eq_false, not_false_eq_true, false_implies, and_true, true_and, implies_true, and_self]
      refine ry_bad hp n4 ?_
      simp (disch := omega) only [a, forall_eq, Nat.le_refl, rl_10, rl_n10, nI_leI, nI_ltI, nI_eq, vp_in_nI, nI_clamp, nI_1, nI_add, rl_lt0, rl_0le, rl_eq0, rl_eq1, rl_eq2, rl_m1, rl_m8, rl_m100, rl_vb0, rl_vb1, true_implies, forall_const, not_true_eq_false, not_false_eq_true, false_implies, and_true, true_and, implies_true, and_self]
      refine rl_mk ⟨hA, hTab, fun q => ?_, fun q hq hu => ?_⟩
      · by_cases e : q = p
        · rw [e, pk_us]; exact Or.inl rfl
        · rw [pk_un e]; exact hU q
      · by_cases e : q = p
        · rw [e, pk_us] at hu; exact absurd rfl hu
        · rw [pk_un e] at hu ⊢; exact hV q hq hu
theorem i_vc_value {k : Nat} {u : SX} {v : SY} (I : i_Rel k u v) (hk : k + 3 ≤ 1539) (v1 : Int32) : wpX_value (fun r => wpY_value (fun r' => r' = r ∧ i_Rel (k + 3) u v) v v1) u v1 := by
  obtain ⟨n, c, m, iv, ct, st, sd, rc, si, ri, g, vX, vY, IV, U, CT, NB, SV, TB, TS, ST, SD, RC, PL, SI, RI, LN, ND, SE, CP, KP, SL, rfl, rfl, hR⟩ := I
  have hR' := hR
  obtain ⟨hA, hTab, hU, hV⟩ := hR'
  have hA' := hA
  obtain ⟨hW, hIV, hCT, hNB, hST, hSD, hRC, hSI, hRI⟩ := hA'
  have hW' := hW
  obtain ⟨⟨⟨n2, n4⟩, ⟨c3, c8⟩, ⟨m4, m16⟩⟩, hS, hM, _⟩ := hW'
  have h10 : ¬ (1 : Int32) = 0 := by decide
  rcases pk_ix v1 (show n < 2 ^ 31 by omega) with h | h | ⟨p, hp, rfl⟩
  · simp only [wpX_value]
    refine rx_badN h ?_
    refine br_f h10 ?_
    simp only [wpY_value]
    refine ry_badN h ?_
    exact br_f h10 ⟨by trivial, rl_mk hR⟩
  · simp only [wpX_value]
    refine rx_badG h ?_
    refine br_f h10 ?_
    simp only [wpY_value]
    refine ry_badG h ?_
    exact br_f h10 ⟨by trivial, rl_mk hR⟩
  · by_cases a : U p = 0
    · simp only [wpX_value]
      refine rx_bad hp n4 ?_
      simp (disch := omega) only [a, wpY_value, forall_eq, Nat.le_refl, rl_10, rl_n10, nI_leI, nI_ltI, nI_eq, vp_in_nI, nI_clamp, nI_1, nI_add, rl_lt0, rl_0le, rl_eq0, rl_eq1, rl_eq2, rl_m1, rl_m8, rl_m100, rl_vb0, rl_vb1, true_implies, forall_const, not_true_eq_false, not_false_eq_true, false_implies, and_true, true_and, implies_true, and_self]
      refine ry_bad hp n4 ?_
      simp (disch := omega) only [a, forall_eq, Nat.le_refl, rl_10, rl_n10, nI_leI, nI_ltI, nI_eq, vp_in_nI, nI_clamp, nI_1, nI_add, rl_lt0, rl_0le, rl_eq0, rl_eq1, rl_eq2, rl_m1, rl_m8, rl_m100, rl_vb0, rl_vb1, true_implies, forall_const, not_true_eq_false, not_false_eq_true, false_implies, and_true, true_and, implies_true, and_self]
      exact rl_mk hR
    · simp only [wpX_value]
      refine rx_bad hp n4 ?_
      simp (disch := omega) only [a, wpY_value, forall_eq, Nat.le_refl, rl_10, rl_n10, nI_leI, nI_ltI, nI_eq, vp_in_nI, nI_clamp, nI_1, nI_add, rl_lt0, rl_0le, rl_eq0, rl_eq1, rl_eq2, rl_m1, rl_m8, rl_m100, rl_vb0, rl_vb1, true_implies, forall_const, not_true_eq_false, not_false_eq_true, false_implies, and_true, true_and, implies_true, and_self]
      refine ry_bad hp n4 ?_
      simp (disch := omega) only [a, forall_eq, Nat.le_refl, rl_10, rl_n10, nI_leI, nI_ltI, nI_eq, vp_in_nI, nI_clamp, nI_1, nI_add, rl_lt0, rl_0le, rl_eq0, rl_eq1, rl_eq2, rl_m1, rl_m8, rl_m100, rl_vb0, rl_vb1, true_implies, forall_const, not_true_eq_false, not_false_eq_true, false_implies, and_true, true_and, implies_true, and_self]
      exact ⟨(hV p hp a).symm, rl_mk hR⟩
theorem i_vc_interval {k : Nat} {u : SX} {v : SY} (I : i_Rel k u v) (hk : k + 3 ≤ 1539) (v1 : Int32) : wpX_interval (fun r => wpY_interval (fun r' => r' = r ∧ i_Rel (k + 3) u v) v v1) u v1 := by
  obtain ⟨n, c, m, iv, ct, st, sd, rc, si, ri, g, vX, vY, IV, U, CT, NB, SV, TB, TS, ST, SD, RC, PL, SI, RI, LN, ND, SE, CP, KP, SL, rfl, rfl, hR⟩ := I
  have hR' := hR
  obtain ⟨hA, hTab, hU, hV⟩ := hR'
  have hA' := hA
  obtain ⟨hW, hIV, hCT, hNB, hST, hSD, hRC, hSI, hRI⟩ := hA'
  have hW' := hW
  obtain ⟨⟨⟨n2, n4⟩, ⟨c3, c8⟩, ⟨m4, m16⟩⟩, hS, hM, _⟩ := hW'
  have h10 : ¬ (1 : Int32) = 0 := by decide
  rcases pk_ix v1 (show n < 2 ^ 31 by omega) with h | h | ⟨p, hp, rfl⟩
  · simp only [wpX_interval]
    refine rx_badN h ?_
    refine br_f h10 ?_
    simp only [wpY_interval]
    refine ry_badN h ?_
    exact br_f h10 ⟨by trivial, rl_mk hR⟩
  · simp only [wpX_interval]
    refine rx_badG h ?_
    refine br_f h10 ?_
    simp only [wpY_interval]
    refine ry_badG h ?_
    exact br_f h10 ⟨by trivial, rl_mk hR⟩
  · simp only [wpX_interval]
    refine rx_bad hp n4 ?_
    simp (disch := omega) only [wpY_interval, forall_eq, Nat.le_refl, rl_10, rl_n10, nI_leI, nI_ltI, nI_eq, vp_in_nI, nI_clamp, nI_1, nI_add, rl_lt0, rl_0le, rl_eq0, rl_eq1, rl_eq2, rl_m1, rl_m8, rl_m100, rl_vb0, rl_vb1, true_implies, forall_const, not_true_eq_false, not_false_eq_true, false_implies, and_true, true_and, implies_true, and_self]
    refine ry_bad hp n4 ?_
    try simp (disch := omega) only [forall_eq, Nat.le_refl, rl_10, rl_n10, nI_leI, nI_ltI, nI_eq, vp_in_nI, nI_clamp, nI_1, nI_add, rl_lt0, rl_0le, rl_eq0, rl_eq1, rl_eq2, rl_m1, rl_m8, rl_m100, rl_vb0, rl_vb1, true_implies, forall_const, not_true_eq_false, not_false_eq_true, false_implies, and_true, true_and, implies_true, and_self]
    exact rl_mk hR
theorem i_vc_isUp {k : Nat} {u : SX} {v : SY} (I : i_Rel k u v) (hk : k + 3 ≤ 1539) (v1 : Int32) : wpX_isUp (fun r => wpY_isUp (fun r' => r' = r ∧ i_Rel (k + 3) u v) v v1) u v1 := by
  obtain ⟨n, c, m, iv, ct, st, sd, rc, si, ri, g, vX, vY, IV, U, CT, NB, SV, TB, TS, ST, SD, RC, PL, SI, RI, LN, ND, SE, CP, KP, SL, rfl, rfl, hR⟩ := I
  have hR' := hR
  obtain ⟨hA, hTab, hU, hV⟩ := hR'
  have hA' := hA
  obtain ⟨hW, hIV, hCT, hNB, hST, hSD, hRC, hSI, hRI⟩ := hA'
  have hW' := hW
  obtain ⟨⟨⟨n2, n4⟩, ⟨c3, c8⟩, ⟨m4, m16⟩⟩, hS, hM, _⟩ := hW'
  have h10 : ¬ (1 : Int32) = 0 := by decide
  rcases pk_ix v1 (show n < 2 ^ 31 by omega) with h | h | ⟨p, hp, rfl⟩
  · simp only [wpX_isUp]
    refine rx_badN h ?_
    refine br_f h10 ?_
    simp only [wpY_isUp]
    refine ry_badN h ?_
    exact br_f h10 ⟨by trivial, rl_mk hR⟩
  · simp only [wpX_isUp]
    refine rx_badG h ?_
    refine br_f h10 ?_
    simp only [wpY_isUp]
    refine ry_badG h ?_
    exact br_f h10 ⟨by trivial, rl_mk hR⟩
  · by_cases a : U p = 0
    · simp only [wpX_isUp]
      refine rx_bad hp n4 ?_
      simp (disch := omega) only [a, wpY_isUp, forall_eq, Nat.le_refl, rl_10, rl_n10, nI_leI, nI_ltI, nI_eq, vp_in_nI, nI_clamp, nI_1, nI_add, rl_lt0, rl_0le, rl_eq0, rl_eq1, rl_eq2, rl_m1, rl_m8, rl_m100, rl_vb0, rl_vb1, true_implies, forall_const, not_true_eq_false, not_false_eq_true, false_implies, and_true, true_and, implies_true, and_self]
      refine ry_bad hp n4 ?_
      simp (disch := omega) only [a, forall_eq, Nat.le_refl, rl_10, rl_n10, nI_leI, nI_ltI, nI_eq, vp_in_nI, nI_clamp, nI_1, nI_add, rl_lt0, rl_0le, rl_eq0, rl_eq1, rl_eq2, rl_m1, rl_m8, rl_m100, rl_vb0, rl_vb1, true_implies, forall_const, not_true_eq_false, not_false_eq_true, false_implies, and_true, true_and, implies_true, and_self]
      exact rl_mk hR
    · simp only [wpX_isUp]
      refine rx_bad hp n4 ?_
      simp (disch := omega) only [a, wpY_isUp, forall_eq, Nat.le_refl, rl_10, rl_n10, nI_leI, nI_ltI, nI_eq, vp_in_nI, nI_clamp, nI_1, nI_add, rl_lt0, rl_0le, rl_eq0, rl_eq1, rl_eq2, rl_m1, rl_m8, rl_m100, rl_vb0, rl_vb1, true_implies, forall_const, not_true_eq_false, not_false_eq_true, false_implies, and_true, true_and, implies_true, and_self]
      refine ry_bad hp n4 ?_
      simp (disch := omega) only [a, forall_eq, Nat.le_refl, rl_10, rl_n10, nI_leI, nI_ltI, nI_eq, vp_in_nI, nI_clamp, nI_1, nI_add, rl_lt0, rl_0le, rl_eq0, rl_eq1, rl_eq2, rl_m1, rl_m8, rl_m100, rl_vb0, rl_vb1, true_implies, forall_const, not_true_eq_false, not_false_eq_true, false_implies, and_true, true_and, implies_true, and_self]
      exact rl_mk hR
theorem i_vc_lose {k : Nat} {u : SX} {v : SY} (I : i_Rel k u v) (hk : k + 3 ≤ 1539) (v1 : Int32) : wpX_lose (fun r u' => wpY_lose (fun r' v' => r' = r ∧ i_Rel (k + 3) u' v') v v1) u v1 := by
  obtain ⟨n, c, m, iv, ct, st, sd, rc, si, ri, g, vX, vY, IV, U, CT, NB, SV, TB, TS, ST, SD, RC, PL, SI, RI, LN, ND, SE, CP, KP, SL, rfl, rfl, hR⟩ := I
  have hR' := hR
  obtain ⟨hA, hTab, hU, hV⟩ := hR'
  have hA' := hA
  obtain ⟨hW, hIV, hCT, hNB, hST, hSD, hRC, hSI, hRI⟩ := hA'
  have hW' := hW
  obtain ⟨⟨⟨n2, n4⟩, ⟨c3, c8⟩, ⟨m4, m16⟩⟩, hS, hM, _⟩ := hW'
  have h10 : ¬ (1 : Int32) = 0 := by decide
  rcases pk_ix v1 (show m < 2 ^ 31 by omega) with h | h | ⟨p, hp, rfl⟩
  · simp only [wpX_lose]
    refine rx_badSN h ?_
    refine br_f h10 ?_
    simp only [wpY_lose]
    refine ry_badSN h ?_
    exact br_f h10 ⟨by trivial, rl_mk hR⟩
  · simp only [wpX_lose]
    refine rx_badSG h ?_
    refine br_f h10 ?_
    simp only [wpY_lose]
    refine ry_badSG h ?_
    exact br_f h10 ⟨by trivial, rl_mk hR⟩
  · have hst2 := (hM.1 p).1
    by_cases a : st p = 1
    · simp only [wpX_lose]
      refine rx_badS hp m16 ?_
      simp (disch := omega) only [hST, a, wpY_lose, forall_eq, Nat.le_refl, rl_10, rl_n10, nI_leI, nI_ltI, nI_eq, vp_in_nI, nI_clamp, nI_1, nI_add, rl_lt0, rl_0le, rl_eq0, rl_eq1, rl_eq2, rl_m1, rl_m8, rl_m100, rl_vb0, rl_vb1, true_implies, forall_const, not_true_eq_false, not_false_eq_true, false_implies, and_true, true_and, implies_true, and_self]
      refine ry_badS hp m16 ?_
      simp (disch := omega) only [hST, a, forall_eq, Nat.le_refl, rl_10, rl_n10, nI_leI, nI_ltI, nI_eq, vp_in_nI, nI_clamp, nI_1, nI_add, rl_lt0, rl_0le, rl_eq0, rl_eq1, rl_eq2, rl_m1, rl_m8, rl_m100, rl_vb0, rl_vb1, true_implies, forall_const, not_true_eq_false, not_false_eq_true, false_implies, and_true, true_and, implies_true, and_self]
      refine rl_mk (st := rl_u st p 0) ⟨⟨rl_W_drop hW (fun s => ?_), hIV, hCT, hNB, rl_uI hST p 0, hSD, hRC, hSI, hRI⟩, hTab, hU, hV⟩
      by_cases e : s = p
      · rw [e, rl_us]; exact Or.inr rfl
      · rw [rl_un e]; exact Or.inl rfl
    · simp only [wpX_lose]
      refine rx_badS hp m16 ?_
      simp (disch := omega) only [hST, a, wpY_lose, forall_eq, Nat.le_refl, rl_10, rl_n10, nI_leI, nI_ltI, nI_eq, vp_in_nI, nI_clamp, nI_1, nI_add, rl_lt0, rl_0le, rl_eq0, rl_eq1, rl_eq2, rl_m1, rl_m8, rl_m100, rl_vb0, rl_vb1, true_implies, forall_const, not_true_eq_false, not_false_eq_true, false_implies, and_true, true_and, implies_true, and_self]
      refine ry_badS hp m16 ?_
      simp (disch := omega) only [hST, a, forall_eq, Nat.le_refl, rl_10, rl_n10, nI_leI, nI_ltI, nI_eq, vp_in_nI, nI_clamp, nI_1, nI_add, rl_lt0, rl_0le, rl_eq0, rl_eq1, rl_eq2, rl_m1, rl_m8, rl_m100, rl_vb0, rl_vb1, true_implies, forall_const, not_true_eq_false, not_false_eq_true, false_implies, and_true, true_and, implies_true, and_self]
      exact rl_mk hR
theorem i_vc_deliver {k : Nat} {u : SX} {v : SY} (I : i_Rel k u v) (hk : k + 3 ≤ 1539) (v1 : Int32) : wpX_deliver (fun r u' => wpY_deliver (fun r' v' => r' = r ∧ i_Rel (k + 3) u' v') v v1) u v1 := by
  obtain ⟨n, c, m, iv, ct, st, sd, rc, si, ri, g, vX, vY, IV, U, CT, NB, SV, TB, TS, ST, SD, RC, PL, SI, RI, LN, ND, SE, CP, KP, SL, rfl, rfl, hR⟩ := I
  have hR' := hR
  obtain ⟨hA, hTab, hU, hV⟩ := hR'
  have hA' := hA
  obtain ⟨hW, hIV, hCT, hNB, hST, hSD, hRC, hSI, hRI⟩ := hA'
  have hW' := hW
  obtain ⟨⟨⟨n2, n4⟩, ⟨c3, c8⟩, ⟨m4, m16⟩⟩, hS, hM, _⟩ := hW'
  have h10 : ¬ (1 : Int32) = 0 := by decide
  rcases pk_ix v1 (show m < 2 ^ 31 by omega) with h | h | ⟨p, hp, rfl⟩
  · simp only [wpX_deliver]
    refine rx_badSN h ?_
    refine br_f h10 ?_
    simp only [wpY_deliver]
    refine ry_badSN h ?_
    exact br_f h10 ⟨by trivial, rl_mk hR⟩
  · simp only [wpX_deliver]
    refine rx_badSG h ?_
    refine br_f h10 ?_
    simp only [wpY_deliver]
    refine ry_badSG h ?_
    exact br_f h10 ⟨by trivial, rl_mk hR⟩
  · obtain ⟨hst2, t2, t3, t4, t5⟩ := hM.1 p
    by_cases a : st p = 1
    · by_cases b : U (rc p) = 0
      · simp only [wpX_deliver]
        refine rx_badS hp m16 ?_
        simp (disch := omega) only [hST, hRC, a, b, wpY_deliver, forall_eq, Nat.le_refl, rl_10, rl_n10, nI_leI, nI_ltI, nI_eq, vp_in_nI, nI_clamp, nI_1, nI_add, rl_lt0, rl_0le, rl_eq0, rl_eq1, rl_eq2, rl_m1, rl_m8, rl_m100, rl_vb0, rl_vb1, true_implies, forall_const, not_true_eq_false, not_false_eq_true, false_implies, and_true, true_and, implies_true, and_self]
        refine ry_badS hp m16 ?_
        simp (disch := omega) only [hST, hRC, a, b, forall_eq, Nat.le_refl, rl_10, rl_n10, nI_leI, nI_ltI, nI_eq, vp_in_nI, nI_clamp, nI_1, nI_add, rl_lt0, rl_0le, rl_eq0, rl_eq1, rl_eq2, rl_m1, rl_m8, rl_m100, rl_vb0, rl_vb1, true_implies, forall_const, not_true_eq_false, not_false_eq_true, false_implies, and_true, true_and, implies_true, and_self]
        exact rl_mk hR
      · simp only [wpX_deliver]
        refine rx_badS hp m16 ?_
        simp (disch := omega) only [hST, hRC, hIV, a, b, wpX_mixIn, wpY_deliver, forall_eq, Nat.le_refl, rl_10, rl_n10, nI_leI, nI_ltI, nI_eq, vp_in_nI, nI_clamp, nI_1, nI_add, rl_lt0, rl_0le, rl_eq0, rl_eq1, rl_eq2, rl_m1, rl_m8, rl_m100, rl_vb0, rl_vb1, true_implies, forall_const, not_true_eq_false, not_false_eq_true, false_implies, and_true, true_and, implies_true, and_self]
        refine ry_badS hp m16 ?_
        simp (disch := omega) only [hST, hRC, hIV, a, b, forall_eq, Nat.le_refl, rl_10, rl_n10, nI_leI, nI_ltI, nI_eq, vp_in_nI, nI_clamp, nI_1, nI_add, rl_lt0, rl_0le, rl_eq0, rl_eq1, rl_eq2, rl_m1, rl_m8, rl_m100, rl_vb0, rl_vb1, true_implies, forall_const, not_true_eq_false, not_false_eq_true, false_implies, and_true, true_and, implies_true, and_self]
        refine rl_mk (st := rl_u st p 2) (ri := rl_u ri p (iv (rc p))) ⟨⟨rl_W_deliver hW, hIV, hCT, hNB, rl_uI hST p 2, hSD, hRC, hSI, rl_uI hRI p _⟩, hTab, hU, fun q hq hu => ?_⟩
        by_cases e : q = rc p
        · rw [e, pk_us, pk_us, hV _ t3 b]
        · rw [pk_un e, pk_un e]; exact hV q hq hu
    · simp only [wpX_deliver]
      refine rx_badS hp m16 ?_
      simp (disch := omega) only [hST, a, wpY_deliver, forall_eq, Nat.le_refl, rl_10, rl_n10, nI_leI, nI_ltI, nI_eq, vp_in_nI, nI_clamp, nI_1, nI_add, rl_lt0, rl_0le, rl_eq0, rl_eq1, rl_eq2, rl_m1, rl_m8, rl_m100, rl_vb0, rl_vb1, true_implies, forall_const, not_true_eq_false, not_false_eq_true, false_implies, and_true, true_and, implies_true, and_self]
      refine ry_badS hp m16 ?_
      simp (disch := omega) only [hST, a, forall_eq, Nat.le_refl, rl_10, rl_n10, nI_leI, nI_ltI, nI_eq, vp_in_nI, nI_clamp, nI_1, nI_add, rl_lt0, rl_0le, rl_eq0, rl_eq1, rl_eq2, rl_m1, rl_m8, rl_m100, rl_vb0, rl_vb1, true_implies, forall_const, not_true_eq_false, not_false_eq_true, false_implies, and_true, true_and, implies_true, and_self]
      exact rl_mk hR
