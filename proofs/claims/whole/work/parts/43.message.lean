theorem i_vc_message {k : Nat} {u : SX} {v : SY} (I : i_Rel k u v) (hk : k + 3 ≤ 1539) (v1 : Int32) (v2 : Int32) : wpX_message (fun r => wpY_message (fun r' => r' = r ∧ i_Rel (k + 3) u v) v v1 v2) u v1 v2 := by
  obtain ⟨n, c, m, iv, ct, st, sd, rc, si, ri, g, vX, vY, IV, U, CT, NB, SV, TB, TS, ST, SD, RC, PL, SI, RI, LN, ND, SE, CP, KP, SL, rfl, rfl, hR⟩ := I
  have hR' := hR
  obtain ⟨hA, hTab, hU, hV⟩ := hR'
  have hA' := hA
  obtain ⟨hW, hIV, hCT, hNB, hST, hSD, hRC, hSI, hRI⟩ := hA'
  have hW' := hW
  obtain ⟨⟨⟨n2, n4⟩, ⟨c3, c8⟩, ⟨m4, m16⟩⟩, hS, hM, _⟩ := hW'
  have h10 : ¬ (1 : Int32) = 0 := by decide
  rcases pk_ix v1 (show m < 2 ^ 31 by omega) with h | h | ⟨p, hp, rfl⟩
  · simp only [wpX_message]
    refine rx_badSN h ?_
    refine br_f h10 ?_
    simp only [wpY_message]
    refine ry_badSN h ?_
    exact br_f h10 ⟨by trivial, rl_mk hR⟩
  · simp only [wpX_message]
    refine rx_badSG h ?_
    refine br_f h10 ?_
    simp only [wpY_message]
    refine ry_badSG h ?_
    exact br_f h10 ⟨by trivial, rl_mk hR⟩
  · obtain ⟨hst2, t2, t3, t4, t5⟩ := hM.1 p
    rcases pk_ix v2 (show 6 < 2 ^ 31 by omega) with h | h | ⟨j, hj, rfl⟩
    · simp only [wpX_message]
      refine rx_badS hp m16 ?_
      simp (disch := omega) only [h, wpY_message, forall_eq, Nat.le_refl, rl_10, rl_n10, nI_leI, nI_ltI, nI_eq, vp_in_nI, nI_clamp, nI_1, nI_add, rl_lt0, rl_0le, rl_eq0, rl_eq1, rl_eq2, rl_m1, rl_m8, rl_m100, rl_vb0, rl_vb1, true_implies, forall_const, not_true_eq_false, not_false_eq_true, false_implies, and_true, true_and, implies_true, and_self]
      refine ry_badS hp m16 ?_
      simp (disch := omega) only [h, forall_eq, Nat.le_refl, rl_10, rl_n10, nI_leI, nI_ltI, nI_eq, vp_in_nI, nI_clamp, nI_1, nI_add, rl_lt0, rl_0le, rl_eq0, rl_eq1, rl_eq2, rl_m1, rl_m8, rl_m100, rl_vb0, rl_vb1, true_implies, forall_const, not_true_eq_false, not_false_eq_true, false_implies, and_true, true_and, implies_true, and_self]
      exact rl_mk hR
    · have h0 : ¬ v2 < 0 := Int32.not_lt.mpr (Int32.le_trans (by decide) h)
      have h5 : ¬ v2 ≤ 5 := Int32.not_le.mpr (Int32.lt_of_lt_of_le (b := nI 6) (by decide) h)
      simp only [wpX_message]
      refine rx_badS hp m16 ?_
      simp (disch := omega) only [h0, h5, wpY_message, forall_eq, Nat.le_refl, rl_10, rl_n10, nI_leI, nI_ltI, nI_eq, vp_in_nI, nI_clamp, nI_1, nI_add, rl_lt0, rl_0le, rl_eq0, rl_eq1, rl_eq2, rl_m1, rl_m8, rl_m100, rl_vb0, rl_vb1, true_implies, forall_const, not_true_eq_false, not_false_eq_true, false_implies, and_true, true_and, implies_true, and_self]
      refine ry_badS hp m16 ?_
      simp (disch := omega) only [h0, h5, forall_eq, Nat.le_refl, rl_10, rl_n10, nI_leI, nI_ltI, nI_eq, vp_in_nI, nI_clamp, nI_1, nI_add, rl_lt0, rl_0le, rl_eq0, rl_eq1, rl_eq2, rl_m1, rl_m8, rl_m100, rl_vb0, rl_vb1, true_implies, forall_const, not_true_eq_false, not_false_eq_true, false_implies, and_true, true_and, implies_true, and_self]
      exact rl_mk hR
    · have hj' : j = 0 ∨ j = 1 ∨ j = 2 ∨ j = 3 ∨ j = 4 ∨ j = 5 := by omega
      rcases hj' with e | e | e | e | e | e <;> subst e
      · have f0 : ¬ (0 : Int32) < 0 := by decide
        have f1 : (0 : Int32) ≤ 5 := by decide
        have f3 : (0 : Int32) < 1 := by decide
        have f4 : ¬ 4 < (0 : Int32) := by decide
        have g0 : nI 0 = (0 : Int32) := rfl
        have g1 : ¬ (0 : Int32) = 1 := by decide
        have g2 : ¬ (0 : Int32) = 2 := by decide
        have g3 : ¬ (0 : Int32) = 3 := by decide
        have g4 : ¬ (0 : Int32) = 4 := by decide
        simp only [wpX_message]
        refine rx_badS hp m16 ?_
        simp (disch := omega) only [f0, f1, f3, f4, g0, g1, g2, g3, g4, wpY_message, forall_eq, Nat.le_refl, rl_10, rl_n10, nI_leI, nI_ltI, nI_eq, vp_in_nI, nI_clamp, nI_1, nI_add, rl_lt0, rl_0le, rl_eq0, rl_eq1, rl_eq2, rl_m1, rl_m8, rl_m100, rl_vb0, rl_vb1, true_implies, forall_const, not_true_eq_false, not_false_eq_true, false_implies, and_true, true_and, implies_true, and_self]
        refine ry_badS hp m16 ?_
        simp (disch := omega) only [f0, f1, f3, f4, g0, g1, g2, g3, g4, forall_eq, Nat.le_refl, rl_10, rl_n10, nI_leI, nI_ltI, nI_eq, vp_in_nI, nI_clamp, nI_1, nI_add, rl_lt0, rl_0le, rl_eq0, rl_eq1, rl_eq2, rl_m1, rl_m8, rl_m100, rl_vb0, rl_vb1, true_implies, forall_const, not_true_eq_false, not_false_eq_true, false_implies, and_true, true_and, implies_true, and_self]
        exact rl_mk hR
      · have f0 : ¬ (1 : Int32) < 0 := by decide
        have f1 : (1 : Int32) ≤ 5 := by decide
        have f3 : ¬ (1 : Int32) < 1 := by decide
        have f4 : ¬ 4 < (1 : Int32) := by decide
        have g0 : ¬ (1 : Int32) = 0 := by decide
        have g1 : nI 1 = (1 : Int32) := rfl
        have g2 : ¬ (1 : Int32) = 2 := by decide
        have g3 : ¬ (1 : Int32) = 3 := by decide
        have g4 : ¬ (1 : Int32) = 4 := by decide
        by_cases a : st p = 0
        · simp only [wpX_message]
          refine rx_badS hp m16 ?_
          simp (disch := omega) only [f0, f1, f3, f4, g0, g1, g2, g3, g4, hST, a, wpY_message, forall_eq, Nat.le_refl, rl_10, rl_n10, nI_leI, nI_ltI, nI_eq, vp_in_nI, nI_clamp, nI_1, nI_add, rl_lt0, rl_0le, rl_eq0, rl_eq1, rl_eq2, rl_m1, rl_m8, rl_m100, rl_vb0, rl_vb1, true_implies, forall_const, not_true_eq_false, not_false_eq_true, false_implies, and_true, true_and, implies_true, and_self]
          refine ry_badS hp m16 ?_
          simp (disch := omega) only [f0, f1, f3, f4, g0, g1, g2, g3, g4, hST, a, forall_eq, Nat.le_refl, rl_10, rl_n10, nI_leI, nI_ltI, nI_eq, vp_in_nI, nI_clamp, nI_1, nI_add, rl_lt0, rl_0le, rl_eq0, rl_eq1, rl_eq2, rl_m1, rl_m8, rl_m100, rl_vb0, rl_vb1, true_implies, forall_const, not_true_eq_false, not_false_eq_true, false_implies, and_true, true_and, implies_true, and_self]
          exact rl_mk hR
        · simp only [wpX_message]
          refine rx_badS hp m16 ?_
          simp (disch := omega) only [f0, f1, f3, f4, g0, g1, g2, g3, g4, hST, a, wpY_message, forall_eq, Nat.le_refl, rl_10, rl_n10, nI_leI, nI_ltI, nI_eq, vp_in_nI, nI_clamp, nI_1, nI_add, rl_lt0, rl_0le, rl_eq0, rl_eq1, rl_eq2, rl_m1, rl_m8, rl_m100, rl_vb0, rl_vb1, true_implies, forall_const, not_true_eq_false, not_false_eq_true, false_implies, and_true, true_and, implies_true, and_self]
          refine ry_badS hp m16 ?_
          simp (disch := omega) only [f0, f1, f3, f4, g0, g1, g2, g3, g4, hST, a, forall_eq, Nat.le_refl, rl_10, rl_n10, nI_leI, nI_ltI, nI_eq, vp_in_nI, nI_clamp, nI_1, nI_add, rl_lt0, rl_0le, rl_eq0, rl_eq1, rl_eq2, rl_m1, rl_m8, rl_m100, rl_vb0, rl_vb1, true_implies, forall_const, not_true_eq_false, not_false_eq_true, false_implies, and_true, true_and, implies_true, and_self]
          exact rl_mk hR
      · have f0 : ¬ (2 : Int32) < 0 := by decide
        have f1 : (2 : Int32) ≤ 5 := by decide
        have f3 : ¬ (2 : Int32) < 1 := by decide
        have f4 : ¬ 4 < (2 : Int32) := by decide
        have g0 : ¬ (2 : Int32) = 0 := by decide
        have g1 : ¬ (2 : Int32) = 1 := by decide
        have g2 : nI 2 = (2 : Int32) := rfl
        have g3 : ¬ (2 : Int32) = 3 := by decide
        have g4 : ¬ (2 : Int32) = 4 := by decide
        by_cases a : st p = 0
        · simp only [wpX_message]
          refine rx_badS hp m16 ?_
          simp (disch := omega) only [f0, f1, f3, f4, g0, g1, g2, g3, g4, hST, a, wpY_message, forall_eq, Nat.le_refl, rl_10, rl_n10, nI_leI, nI_ltI, nI_eq, vp_in_nI, nI_clamp, nI_1, nI_add, rl_lt0, rl_0le, rl_eq0, rl_eq1, rl_eq2, rl_m1, rl_m8, rl_m100, rl_vb0, rl_vb1, true_implies, forall_const, not_true_eq_false, not_false_eq_true, false_implies, and_true, true_and, implies_true, and_self]
          refine ry_badS hp m16 ?_
          simp (disch := omega) only [f0, f1, f3, f4, g0, g1, g2, g3, g4, hST, a, forall_eq, Nat.le_refl, rl_10, rl_n10, nI_leI, nI_ltI, nI_eq, vp_in_nI, nI_clamp, nI_1, nI_add, rl_lt0, rl_0le, rl_eq0, rl_eq1, rl_eq2, rl_m1, rl_m8, rl_m100, rl_vb0, rl_vb1, true_implies, forall_const, not_true_eq_false, not_false_eq_true, false_implies, and_true, true_and, implies_true, and_self]
          exact rl_mk hR
        · simp only [wpX_message]
          refine rx_badS hp m16 ?_
          simp (disch := omega) only [f0, f1, f3, f4, g0, g1, g2, g3, g4, hST, a, wpY_message, forall_eq, Nat.le_refl, rl_10, rl_n10, nI_leI, nI_ltI, nI_eq, vp_in_nI, nI_clamp, nI_1, nI_add, rl_lt0, rl_0le, rl_eq0, rl_eq1, rl_eq2, rl_m1, rl_m8, rl_m100, rl_vb0, rl_vb1, true_implies, forall_const, not_true_eq_false, not_false_eq_true, false_implies, and_true, true_and, implies_true, and_self]
          refine ry_badS hp m16 ?_
          simp (disch := omega) only [f0, f1, f3, f4, g0, g1, g2, g3, g4, hST, a, forall_eq, Nat.le_refl, rl_10, rl_n10, nI_leI, nI_ltI, nI_eq, vp_in_nI, nI_clamp, nI_1, nI_add, rl_lt0, rl_0le, rl_eq0, rl_eq1, rl_eq2, rl_m1, rl_m8, rl_m100, rl_vb0, rl_vb1, true_implies, forall_const, not_true_eq_false, not_false_eq_true, false_implies, and_true, true_and, implies_true, and_self]
          exact rl_mk hR
      · have f0 : ¬ (3 : Int32) < 0 := by decide
        have f1 : (3 : Int32) ≤ 5 := by decide
        have f3 : ¬ (3 : Int32) < 1 := by decide
        have f4 : ¬ 4 < (3 : Int32) := by decide
        have g0 : ¬ (3 : Int32) = 0 := by decide
        have g1 : ¬ (3 : Int32) = 1 := by decide
        have g2 : ¬ (3 : Int32) = 2 := by decide
        have g3 : nI 3 = (3 : Int32) := rfl
        have g4 : ¬ (3 : Int32) = 4 := by decide
        by_cases a : st p = 0
        · simp only [wpX_message]
          refine rx_badS hp m16 ?_
          simp (disch := omega) only [f0, f1, f3, f4, g0, g1, g2, g3, g4, hST, a, wpY_message, forall_eq, Nat.le_refl, rl_10, rl_n10, nI_leI, nI_ltI, nI_eq, vp_in_nI, nI_clamp, nI_1, nI_add, rl_lt0, rl_0le, rl_eq0, rl_eq1, rl_eq2, rl_m1, rl_m8, rl_m100, rl_vb0, rl_vb1, true_implies, forall_const, not_true_eq_false, not_false_eq_true, false_implies, and_true, true_and, implies_true, and_self]
          refine ry_badS hp m16 ?_
          simp (disch := omega) only [f0, f1, f3, f4, g0, g1, g2, g3, g4, hST, a, forall_eq, Nat.le_refl, rl_10, rl_n10, nI_leI, nI_ltI, nI_eq, vp_in_nI, nI_clamp, nI_1, nI_add, rl_lt0, rl_0le, rl_eq0, rl_eq1, rl_eq2, rl_m1, rl_m8, rl_m100, rl_vb0, rl_vb1, true_implies, forall_const, not_true_eq_false, not_false_eq_true, false_implies, and_true, true_and, implies_true, and_self]
          exact rl_mk hR
        · simp only [wpX_message]
          refine rx_badS hp m16 ?_
          simp (disch := omega) only [f0, f1, f3, f4, g0, g1, g2, g3, g4, hST, a, wpY_message, forall_eq, Nat.le_refl, rl_10, rl_n10, nI_leI, nI_ltI, nI_eq, vp_in_nI, nI_clamp, nI_1, nI_add, rl_lt0, rl_0le, rl_eq0, rl_eq1, rl_eq2, rl_m1, rl_m8, rl_m100, rl_vb0, rl_vb1, true_implies, forall_const, not_true_eq_false, not_false_eq_true, false_implies, and_true, true_and, implies_true, and_self]
          refine ry_badS hp m16 ?_
          simp (disch := omega) only [f0, f1, f3, f4, g0, g1, g2, g3, g4, hST, a, forall_eq, Nat.le_refl, rl_10, rl_n10, nI_leI, nI_ltI, nI_eq, vp_in_nI, nI_clamp, nI_1, nI_add, rl_lt0, rl_0le, rl_eq0, rl_eq1, rl_eq2, rl_m1, rl_m8, rl_m100, rl_vb0, rl_vb1, true_implies, forall_const, not_true_eq_false, not_false_eq_true, false_implies, and_true, true_and, implies_true, and_self]
          exact rl_mk hR
      · have f0 : ¬ (4 : Int32) < 0 := by decide
        have f1 : (4 : Int32) ≤ 5 := by decide
        have f3 : ¬ (4 : Int32) < 1 := by decide
        have f4 : ¬ 4 < (4 : Int32) := by decide
        have g0 : ¬ (4 : Int32) = 0 := by decide
        have g1 : ¬ (4 : Int32) = 1 := by decide
        have g2 : ¬ (4 : Int32) = 2 := by decide
        have g3 : ¬ (4 : Int32) = 3 := by decide
        have g4 : nI 4 = (4 : Int32) := rfl
        by_cases a : st p = 0
        · simp only [wpX_message]
          refine rx_badS hp m16 ?_
          simp (disch := omega) only [f0, f1, f3, f4, g0, g1, g2, g3, g4, hST, a, wpY_message, forall_eq, Nat.le_refl, rl_10, rl_n10, nI_leI, nI_ltI, nI_eq, vp_in_nI, nI_clamp, nI_1, nI_add, rl_lt0, rl_0le, rl_eq0, rl_eq1, rl_eq2, rl_m1, rl_m8, rl_m100, rl_vb0, rl_vb1, true_implies, forall_const, not_true_eq_false, not_false_eq_true, false_implies, and_true, true_and, implies_true, and_self]
          refine ry_badS hp m16 ?_
          simp (disch := omega) only [f0, f1, f3, f4, g0, g1, g2, g3, g4, hST, a, forall_eq, Nat.le_refl, rl_10, rl_n10, nI_leI, nI_ltI, nI_eq, vp_in_nI, nI_clamp, nI_1, nI_add, rl_lt0, rl_0le, rl_eq0, rl_eq1, rl_eq2, rl_m1, rl_m8, rl_m100, rl_vb0, rl_vb1, true_implies, forall_const, not_true_eq_false, not_false_eq_true, false_implies, and_true, true_and, implies_true, and_self]
          exact rl_mk hR
        · simp only [wpX_message]
          refine rx_badS hp m16 ?_
          simp (disch := omega) only [f0, f1, f3, f4, g0, g1, g2, g3, g4, hST, a, wpY_message, forall_eq, Nat.le_refl, rl_10, rl_n10, nI_leI, nI_ltI, nI_eq, vp_in_nI, nI_clamp, nI_1, nI_add, rl_lt0, rl_0le, rl_eq0, rl_eq1, rl_eq2, rl_m1, rl_m8, rl_m100, rl_vb0, rl_vb1, true_implies, forall_const, not_true_eq_false, not_false_eq_true, false_implies, and_true, true_and, implies_true, and_self]
          refine ry_badS hp m16 ?_
          simp (disch := omega) only [f0, f1, f3, f4, g0, g1, g2, g3, g4, hST, a, forall_eq, Nat.le_refl, rl_10, rl_n10, nI_leI, nI_ltI, nI_eq, vp_in_nI, nI_clamp, nI_1, nI_add, rl_lt0, rl_0le, rl_eq0, rl_eq1, rl_eq2, rl_m1, rl_m8, rl_m100, rl_vb0, rl_vb1, true_implies, forall_const, not_true_eq_false, not_false_eq_true, false_implies, and_true, true_and, implies_true, and_self]
          exact rl_mk hR
      · have g5 : nI 5 = (5 : Int32) := rfl
        have f0 : ¬ (5 : Int32) < 0 := by decide
        have f1 : (5 : Int32) ≤ 5 := by decide
        have f3 : ¬ (5 : Int32) < 1 := by decide
        have f4 : 4 < (5 : Int32) := by decide
        have g0 : ¬ (5 : Int32) = 0 := by decide
        have g1 : ¬ (5 : Int32) = 1 := by decide
        have g2 : ¬ (5 : Int32) = 2 := by decide
        have g3 : ¬ (5 : Int32) = 3 := by decide
        have g4 : ¬ (5 : Int32) = 4 := by decide
        by_cases a : st p = 0
        · simp only [wpX_message]
          refine rx_badS hp m16 ?_
          simp (disch := omega) only [g5, f0, f1, f3, f4, g0, g1, g2, g3, g4, hST, a, wpY_message, forall_eq, Nat.le_refl, rl_10, rl_n10, nI_leI, nI_ltI, nI_eq, vp_in_nI, nI_clamp, nI_1, nI_add, rl_lt0, rl_0le, rl_eq0, rl_eq1, rl_eq2, rl_m1, rl_m8, rl_m100, rl_vb0, rl_vb1, true_implies, forall_const, not_true_eq_false, not_false_eq_true, false_implies, and_true, true_and, implies_true, and_self]
          refine ry_badS hp m16 ?_
          simp (disch := omega) only [g5, f0, f1, f3, f4, g0, g1, g2, g3, g4, hST, a, forall_eq, Nat.le_refl, rl_10, rl_n10, nI_leI, nI_ltI, nI_eq, vp_in_nI, nI_clamp, nI_1, nI_add, rl_lt0, rl_0le, rl_eq0, rl_eq1, rl_eq2, rl_m1, rl_m8, rl_m100, rl_vb0, rl_vb1, true_implies, forall_const, not_true_eq_false, not_false_eq_true, false_implies, and_true, true_and, implies_true, and_self]
          exact rl_mk hR
        · by_cases b : st p = 2
          · simp only [wpX_message]
            refine rx_badS hp m16 ?_
            simp (disch := omega) only [g5, f0, f1, f3, f4, g0, g1, g2, g3, g4, hST, a, b, show ¬ (2 : Nat) = 0 by decide, wpY_message, forall_eq, Nat.le_refl, rl_10, rl_n10, nI_leI, nI_ltI, nI_eq, vp_in_nI, nI_clamp, nI_1, nI_add, rl_lt0, rl_0le, rl_eq0, rl_eq1, rl_eq2, rl_m1, rl_m8, rl_m100, rl_vb0, rl_vb1, true_implies, forall_const, not_true_eq_false, not_false_eq_true, false_implies, and_true, true_and, implies_true, and_self]
            refine ry_badS hp m16 ?_
            simp (disch := omega) only [g5, f0, f1, f3, f4, g0, g1, g2, g3, g4, hST, a, b, show ¬ (2 : Nat) = 0 by decide, forall_eq, Nat.le_refl, rl_10, rl_n10, nI_leI, nI_ltI, nI_eq, vp_in_nI, nI_clamp, nI_1, nI_add, rl_lt0, rl_0le, rl_eq0, rl_eq1, rl_eq2, rl_m1, rl_m8, rl_m100, rl_vb0, rl_vb1, true_implies, forall_const, not_true_eq_false, not_false_eq_true, false_implies, and_true, true_and, implies_true, and_self]
            exact rl_mk hR
          · simp only [wpX_message]
            refine rx_badS hp m16 ?_
            simp (disch := omega) only [g5, f0, f1, f3, f4, g0, g1, g2, g3, g4, hST, a, b, show ¬ (2 : Nat) = 0 by decide, wpY_message, forall_eq, Nat.le_refl, rl_10, rl_n10, nI_leI, nI_ltI, nI_eq, vp_in_nI, nI_clamp, nI_1, nI_add, rl_lt0, rl_0le, rl_eq0, rl_eq1, rl_eq2, rl_m1, rl_m8, rl_m100, rl_vb0, rl_vb1, true_implies, forall_const, not_true_eq_false, not_false_eq_true, false_implies, and_true, true_and, implies_true, and_self]
            refine ry_badS hp m16 ?_
            simp (disch := omega) only [g5, f0, f1, f3, f4, g0, g1, g2, g3, g4, hST, a, b, show ¬ (2 : Nat) = 0 by decide, forall_eq, Nat.le_refl, rl_10, rl_n10, nI_leI, nI_ltI, nI_eq, vp_in_nI, nI_clamp, nI_1, nI_add, rl_lt0, rl_0le, rl_eq0, rl_eq1, rl_eq2, rl_m1, rl_m8, rl_m100, rl_vb0, rl_vb1, true_implies, forall_const, not_true_eq_false, not_false_eq_true, false_implies, and_true, true_and, implies_true, and_self]
            exact rl_mk hR
