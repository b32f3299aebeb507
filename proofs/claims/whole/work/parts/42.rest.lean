theorem i_vc_send {k : Nat} {u : SX} {v : SY} (I : i_Rel k u v) (hk : k + 3 ≤ 1539) (v1 : Int32) (v2 : Int32) : wpX_send (fun r u' => wpY_send (fun r' v' => r' = r ∧ i_Rel (k + 3) u' v') v v1 v2) u v1 v2 := by
  obtain ⟨n, c, m, iv, ct, st, sd, rc, si, ri, g, vX, vY, IV, U, CT, NB, SV, TB, TS, ST, SD, RC, PL, SI, RI, LN, ND, SE, CP, KP, SL, rfl, rfl, hR⟩ := I
  have hR' := hR
  obtain ⟨hA, hTab, hU, hV⟩ := hR'
  have hA' := hA
  obtain ⟨hW, hIV, hCT, hNB, hST, hSD, hRC, hSI, hRI⟩ := hA'
  have hW' := hW
  obtain ⟨⟨⟨n2, n4⟩, ⟨c3, c8⟩, ⟨m4, m16⟩⟩, hS, hM, _⟩ := hW'
  have h10 : ¬ (1 : Int32) = 0 := by decide
  have h2 : ∀ s, st s ≤ 2 := fun s => (hM.1 s).1
  rcases pk_ix v1 (show n < 2 ^ 31 by omega) with h | h | ⟨p, hp, rfl⟩
  · simp only [wpX_send]
    refine rx_badN h ?_
    refine br_f h10 ?_
    simp only [wpY_send]
    refine ry_badN h ?_
    exact br_f h10 ⟨by trivial, rl_mk hR⟩
  · simp only [wpX_send]
    refine rx_badG h ?_
    refine br_f h10 ?_
    simp only [wpY_send]
    refine ry_badG h ?_
    exact br_f h10 ⟨by trivial, rl_mk hR⟩
  · simp only [wpX_send]
    refine rx_bad hp n4 ?_
    refine br_t rfl ?_
    rcases pk_ix v2 (show n < 2 ^ 31 by omega) with h | h | ⟨q, hq, rfl⟩
    · refine rx_badN h ?_
      refine br_f h10 ?_
      simp only [wpY_send]
      refine ry_bad hp n4 ?_
      refine br_t rfl ?_
      refine ry_badN h ?_
      exact br_f h10 ⟨by trivial, rl_mk hR⟩
    · refine rx_badG h ?_
      refine br_f h10 ?_
      simp only [wpY_send]
      refine ry_bad hp n4 ?_
      refine br_t rfl ?_
      refine ry_badG h ?_
      exact br_f h10 ⟨by trivial, rl_mk hR⟩
    · refine rx_bad hq n4 ?_
      refine br_t rfl ?_
      by_cases e : p = q
      · refine br_t (by rw [e]) ?_
        simp only [wpY_send]
        refine ry_bad hp n4 ?_
        refine br_t rfl ?_
        refine ry_bad hq n4 ?_
        refine br_t rfl ?_
        exact br_t (by rw [e]) ⟨by trivial, rl_mk hR⟩
      · have e' : ¬ nI p = nI q := fun z => e ((nI_eq (by omega) (by omega)).mp z)
        have hcl : (nI p).toNatClampNeg = p := nI_clamp (by omega)
        have hin : vp_in (nI p) 4 := vp_in_nI (by omega) (by omega)
        refine br_f e' ⟨hin, ?_⟩
        by_cases a : U p = 0
        · refine br_t (by rw [hcl]; exact a) ?_
          simp only [wpY_send]
          refine ry_bad hp n4 ?_
          refine br_t rfl ?_
          refine ry_bad hq n4 ?_
          refine br_t rfl ?_
          refine br_f e' ⟨hin, ?_⟩
          exact br_t (by rw [hcl]; exact a) ⟨by trivial, rl_mk hR⟩
        · refine br_f (by rw [hcl]; exact a) ?_
          refine rx_empty m16 hST h2 (fun s hs he hne => ?_) (fun hne => ?_)
          · have hne4 := rl_ne4 (a := s) (by omega)
            simp (disch := omega) only [hne4, hIV, forall_eq, Nat.le_refl, rl_10, rl_n10, nI_leI, nI_ltI, nI_eq, vp_in_nI, nI_clamp, nI_1, nI_add, rl_lt0, rl_0le, rl_eq0, rl_eq1, rl_eq2, rl_m1, rl_m8, rl_m100, rl_vb0, rl_vb1, true_implies, forall_const, not_true_eq_false, not_false_eq_true, false_implies, and_true, true_and, implies_true, and_self]
            simp only [wpY_send]
            refine ry_bad hp n4 ?_
            refine br_t rfl ?_
            refine ry_bad hq n4 ?_
            refine br_t rfl ?_
            refine br_f e' ⟨hin, ?_⟩
            refine br_f (by rw [hcl]; exact a) ?_
            refine ⟨m + 1, ry_send_l (iv := iv) (st := st) (by omega) hIV m16 hST h2 hs he hne ?_ (m + 1) 0 (by omega) (by omega)⟩
            refine ⟨rfl, ?_⟩
            rw [hV p hp a]
            exact rl_mk (st := rl_u st s 1) (sd := rl_u sd s p) (rc := rl_u rc s q) (si := rl_u si s (iv p)) ⟨⟨rl_W_send hW hp hq, hIV, hCT, hNB, rl_uI hST s 1, rl_uI hSD s p, rl_uI hRC s q, rl_uI hSI s _, hRI⟩, hTab, hU, hV⟩
          · refine br_t rfl ?_
            simp only [wpY_send]
            refine ry_bad hp n4 ?_
            refine br_t rfl ?_
            refine ry_bad hq n4 ?_
            refine br_t rfl ?_
            refine br_f e' ⟨hin, ?_⟩
            refine br_f (by rw [hcl]; exact a) ?_
            exact ⟨m + 1, ry_sendF_l (st := st) m16 hST h2 hne ⟨by trivial, rl_mk hR⟩ (m + 1) 0 (by omega) (by omega)⟩
theorem i_vc_checkpoint {k : Nat} {u : SX} {v : SY} (I : i_Rel k u v) (hk : k + 3 ≤ 1539) (v1 : Int32) : wpX_checkpoint (fun r u' => wpY_checkpoint (fun r' v' => r' = r ∧ i_Rel (k + 3) u' v') v v1) u v1 := by
  obtain ⟨n, c, m, iv, ct, st, sd, rc, si, ri, g, vX, vY, IV, U, CT, NB, SV, TB, TS, ST, SD, RC, PL, SI, RI, LN, ND, SE, CP, KP, SL, rfl, rfl, hR⟩ := I
  have hR' := hR
  obtain ⟨hA, hTab, hU, hV⟩ := hR'
  have hA' := hA
  obtain ⟨hW, hIV, hCT, hNB, hST, hSD, hRC, hSI, hRI⟩ := hA'
  have hW' := hW
  obtain ⟨⟨⟨n2, n4⟩, ⟨c3, c8⟩, ⟨m4, m16⟩⟩, hS, hM, _⟩ := hW'
  have h10 : ¬ (1 : Int32) = 0 := by decide
  have hB := rl_B_of hR
  rcases pk_ix v1 (show n < 2 ^ 31 by omega) with h | h | ⟨p, hp, rfl⟩
  · simp only [wpX_checkpoint]
    refine rx_badN h ?_
    refine br_f h10 ?_
    simp only [wpY_checkpoint]
    refine ry_badN h ?_
    exact br_f h10 ⟨by trivial, rl_mk hR⟩
  · simp only [wpX_checkpoint]
    refine rx_badG h ?_
    refine br_f h10 ?_
    simp only [wpY_checkpoint]
    refine ry_badG h ?_
    exact br_f h10 ⟨by trivial, rl_mk hR⟩
  · obtain ⟨s1, s2, s3, s4, s5⟩ := hS p hp
    by_cases a : U p = 0
    · simp only [wpX_checkpoint]
      refine rx_bad hp n4 ?_
      simp (disch := omega) only [a, wpY_checkpoint, forall_eq, Nat.le_refl, rl_10, rl_n10, nI_leI, nI_ltI, nI_eq, vp_in_nI, nI_clamp, nI_1, nI_add, rl_lt0, rl_0le, rl_eq0, rl_eq1, rl_eq2, rl_m1, rl_m8, rl_m100, rl_vb0, rl_vb1, true_implies, forall_const, not_true_eq_false, not_false_eq_true, false_implies, and_true, true_and, implies_true, and_self]
      refine ry_bad hp n4 ?_
      simp (disch := omega) only [a, forall_eq, Nat.le_refl, rl_10, rl_n10, nI_leI, nI_ltI, nI_eq, vp_in_nI, nI_clamp, nI_1, nI_add, rl_lt0, rl_0le, rl_eq0, rl_eq1, rl_eq2, rl_m1, rl_m8, rl_m100, rl_vb0, rl_vb1, true_implies, forall_const, not_true_eq_false, not_false_eq_true, false_implies, and_true, true_and, implies_true, and_self]
      exact rl_mk hR
    · by_cases b : iv p < 99
      · by_cases d : ct p < c
        · simp only [wpX_checkpoint]
          refine rx_bad hp n4 ?_
          simp (disch := omega) only [a, b, d, hIV, hCT, rl_l99, pk_us, wpX_store, wpX_firstCell, wpY_checkpoint, forall_eq, Nat.le_refl, rl_10, rl_n10, nI_leI, nI_ltI, nI_eq, vp_in_nI, nI_clamp, nI_1, nI_add, rl_lt0, rl_0le, rl_eq0, rl_eq1, rl_eq2, rl_m1, rl_m8, rl_m100, rl_vb0, rl_vb1, true_implies, forall_const, not_true_eq_false, not_false_eq_true, false_implies, and_true, true_and, implies_true, and_self]
          refine ry_bad hp n4 ?_
          simp (disch := omega) only [a, b, hIV, rl_l99, forall_eq, Nat.le_refl, rl_10, rl_n10, nI_leI, nI_ltI, nI_eq, vp_in_nI, nI_clamp, nI_1, nI_add, rl_lt0, rl_0le, rl_eq0, rl_eq1, rl_eq2, rl_m1, rl_m8, rl_m100, rl_vb0, rl_vb1, true_implies, forall_const, not_true_eq_false, not_false_eq_true, false_implies, and_true, true_and, implies_true, and_self]
          exact ⟨101, ry_chk_l hB hp b (fun _ => ⟨by trivial, rl_mk (rl_R_check hR hp b d a)⟩) (fun z => absurd d z) 101 0 (by omega) (by omega)⟩
        · simp only [wpX_checkpoint]
          refine rx_bad hp n4 ?_
          simp (disch := omega) only [a, b, d, hIV, hCT, rl_l99, wpY_checkpoint, forall_eq, Nat.le_refl, rl_10, rl_n10, nI_leI, nI_ltI, nI_eq, vp_in_nI, nI_clamp, nI_1, nI_add, rl_lt0, rl_0le, rl_eq0, rl_eq1, rl_eq2, rl_m1, rl_m8, rl_m100, rl_vb0, rl_vb1, true_implies, forall_const, not_true_eq_false, not_false_eq_true, false_implies, and_true, true_and, implies_true, and_self]
          refine ry_bad hp n4 ?_
          simp (disch := omega) only [a, b, hIV, rl_l99, forall_eq, Nat.le_refl, rl_10, rl_n10, nI_leI, nI_ltI, nI_eq, vp_in_nI, nI_clamp, nI_1, nI_add, rl_lt0, rl_0le, rl_eq0, rl_eq1, rl_eq2, rl_m1, rl_m8, rl_m100, rl_vb0, rl_vb1, true_implies, forall_const, not_true_eq_false, not_false_eq_true, false_implies, and_true, true_and, implies_true, and_self]
          exact ⟨101, ry_chk_l hB hp b (fun z => absurd z d) (fun _ => ⟨by trivial, rl_mk hR⟩) 101 0 (by omega) (by omega)⟩
      · simp only [wpX_checkpoint]
        refine rx_bad hp n4 ?_
        simp (disch := omega) only [a, b, hIV, rl_l99, wpY_checkpoint, forall_eq, Nat.le_refl, rl_10, rl_n10, nI_leI, nI_ltI, nI_eq, vp_in_nI, nI_clamp, nI_1, nI_add, rl_lt0, rl_0le, rl_eq0, rl_eq1, rl_eq2, rl_m1, rl_m8, rl_m100, rl_vb0, rl_vb1, true_implies, forall_const, not_true_eq_false, not_false_eq_true, false_implies, and_true, true_and, implies_true, and_self]
        refine ry_bad hp n4 ?_
        simp (disch := omega) only [a, b, hIV, rl_l99, forall_eq, Nat.le_refl, rl_10, rl_n10, nI_leI, nI_ltI, nI_eq, vp_in_nI, nI_clamp, nI_1, nI_add, rl_lt0, rl_0le, rl_eq0, rl_eq1, rl_eq2, rl_m1, rl_m8, rl_m100, rl_vb0, rl_vb1, true_implies, forall_const, not_true_eq_false, not_false_eq_true, false_implies, and_true, true_and, implies_true, and_self]
        exact rl_mk hR
theorem i_vc_checkpointNumber {k : Nat} {u : SX} {v : SY} (I : i_Rel k u v) (hk : k + 3 ≤ 1539) (v1 : Int32) (v2 : Int32) : wpX_checkpointNumber (fun r => wpY_checkpointNumber (fun r' => r' = r ∧ i_Rel (k + 3) u v) v v1 v2) u v1 v2 := by
  obtain ⟨n, c, m, iv, ct, st, sd, rc, si, ri, g, vX, vY, IV, U, CT, NB, SV, TB, TS, ST, SD, RC, PL, SI, RI, LN, ND, SE, CP, KP, SL, rfl, rfl, hR⟩ := I
  have hR' := hR
  obtain ⟨hA, hTab, hU, hV⟩ := hR'
  have hA' := hA
  obtain ⟨hW, hIV, hCT, hNB, hST, hSD, hRC, hSI, hRI⟩ := hA'
  have hW' := hW
  obtain ⟨⟨⟨n2, n4⟩, ⟨c3, c8⟩, ⟨m4, m16⟩⟩, hS, hM, _⟩ := hW'
  have h10 : ¬ (1 : Int32) = 0 := by decide
  have hB := rl_B_of hR
  rcases pk_ix v1 (show n < 2 ^ 31 by omega) with h | h | ⟨p, hp, rfl⟩
  · simp only [wpX_checkpointNumber]
    refine rx_badN h ?_
    refine br_f h10 ?_
    simp only [wpY_checkpointNumber]
    refine ry_badN h ?_
    exact br_f h10 ⟨by trivial, rl_mk hR⟩
  · simp only [wpX_checkpointNumber]
    refine rx_badG h ?_
    refine br_f h10 ?_
    simp only [wpY_checkpointNumber]
    refine ry_badG h ?_
    exact br_f h10 ⟨by trivial, rl_mk hR⟩
  · obtain ⟨s1, s2, s3, s4, s5⟩ := hS p hp
    have none : (∀ j, j < ct p → ¬ v2 = nI j) → wpY_checkpointNumber (fun r' => r' = -4 ∧ i_Rel (k + 3) (nI n, nI c, nI m, vX, IV, U, CT, NB, SV, ST, SD, RC, PL, SI, RI, LN, ND, SE) (nI n, nI c, nI m, vY, IV, U, TB, TS, ST, SD, RC, PL, SI, RI, CP, KP, SL)) (nI n, nI c, nI m, vY, IV, U, TB, TS, ST, SD, RC, PL, SI, RI, CP, KP, SL) (nI p) v2 := by
      intro hn
      simp only [wpY_checkpointNumber]
      refine ry_bad hp n4 ?_
      refine br_t rfl ?_
      exact ⟨101, ry_cnum_l hB hp (fun j hj e => absurd e (hn j hj)) (fun _ => ⟨by trivial, rl_mk hR⟩) 101 0 (by omega) (by omega) (fun j _ hj => absurd hj (by omega))⟩
    rcases pk_ix v2 (show ct p < 2 ^ 31 by omega) with h | h | ⟨j, hj, rfl⟩
    · simp only [wpX_checkpointNumber]
      refine rx_bad hp n4 ?_
      simp (disch := omega) only [h, forall_eq, Nat.le_refl, rl_10, rl_n10, nI_leI, nI_ltI, nI_eq, vp_in_nI, nI_clamp, nI_1, nI_add, rl_lt0, rl_0le, rl_eq0, rl_eq1, rl_eq2, rl_m1, rl_m8, rl_m100, rl_vb0, rl_vb1, true_implies, forall_const, not_true_eq_false, not_false_eq_true, false_implies, and_true, true_and, implies_true, and_self]
      exact none (fun j hj e => by rw [e] at h; exact nI_pos (by omega) h)
    · have h' : ¬ v2 < nI (ct p) := Int32.not_lt.mpr h
      have h0 : ¬ v2 < 0 := Int32.not_lt.mpr (Int32.le_trans (nI_pos' (by omega)) h)
      simp only [wpX_checkpointNumber]
      refine rx_bad hp n4 ?_
      simp (disch := omega) only [h', h0, hCT, forall_eq, Nat.le_refl, rl_10, rl_n10, nI_leI, nI_ltI, nI_eq, vp_in_nI, nI_clamp, nI_1, nI_add, rl_lt0, rl_0le, rl_eq0, rl_eq1, rl_eq2, rl_m1, rl_m8, rl_m100, rl_vb0, rl_vb1, true_implies, forall_const, not_true_eq_false, not_false_eq_true, false_implies, and_true, true_and, implies_true, and_self]
      exact none (fun j hj e => by rw [e] at h; exact absurd ((nI_leI (by omega) (by omega)).mp h) (by omega))
    · simp only [wpX_checkpointNumber]
      refine rx_bad hp n4 ?_
      simp (disch := omega) only [hj, hCT, hNB p hp j hj, wpX_firstCell, wpY_checkpointNumber, forall_eq, Nat.le_refl, rl_10, rl_n10, nI_leI, nI_ltI, nI_eq, vp_in_nI, nI_clamp, nI_1, nI_add, rl_lt0, rl_0le, rl_eq0, rl_eq1, rl_eq2, rl_m1, rl_m8, rl_m100, rl_vb0, rl_vb1, true_implies, forall_const, not_true_eq_false, not_false_eq_true, false_implies, and_true, true_and, implies_true, and_self]
      refine ry_bad hp n4 ?_
      refine br_t rfl ?_
      refine ⟨101, ry_cnum_l hB hp (fun i hi e => ?_) (fun hn => absurd rfl (hn j hj)) 101 0 (by omega) (by omega) (fun j _ hj => absurd hj (by omega))⟩
      have e2 : j = i := (nI_eq (by omega) (by omega)).mp e
      rw [e2]
      exact ⟨by trivial, rl_mk hR⟩
theorem i_vc_savedValue {k : Nat} {u : SX} {v : SY} (I : i_Rel k u v) (hk : k + 3 ≤ 1539) (v1 : Int32) (v2 : Int32) : wpX_savedValue (fun r => wpY_savedValue (fun r' => r' = r ∧ i_Rel (k + 3) u v) v v1 v2) u v1 v2 := by
  obtain ⟨n, c, m, iv, ct, st, sd, rc, si, ri, g, vX, vY, IV, U, CT, NB, SV, TB, TS, ST, SD, RC, PL, SI, RI, LN, ND, SE, CP, KP, SL, rfl, rfl, hR⟩ := I
  have hR' := hR
  obtain ⟨hA, hTab, hU, hV⟩ := hR'
  have hA' := hA
  obtain ⟨hW, hIV, hCT, hNB, hST, hSD, hRC, hSI, hRI⟩ := hA'
  have hW' := hW
  obtain ⟨⟨⟨n2, n4⟩, ⟨c3, c8⟩, ⟨m4, m16⟩⟩, hS, hM, _⟩ := hW'
  have h10 : ¬ (1 : Int32) = 0 := by decide
  rcases pk_ix v1 (show n < 2 ^ 31 by omega) with h | h | ⟨p, hp, rfl⟩
  · simp only [wpX_savedValue]
    refine rx_badN h ?_
    refine br_f h10 ?_
    simp only [wpY_savedValue]
    refine ry_badN h ?_
    exact br_f h10 ⟨by trivial, rl_mk hR⟩
  · simp only [wpX_savedValue]
    refine rx_badG h ?_
    refine br_f h10 ?_
    simp only [wpY_savedValue]
    refine ry_badG h ?_
    exact br_f h10 ⟨by trivial, rl_mk hR⟩
  · obtain ⟨s1, s2, s3, s4, s5⟩ := hS p hp
    simp only [wpX_savedValue]
    refine rx_bad hp n4 ?_
    refine br_t rfl ?_
    refine rx_cellOf (K := ct p) (gp := g p) (by omega) (by omega) (hCT p) (hNB p hp) (fun j hj ej => ?_) (fun hn => ?_)
    · have hg := s4 j hj
      have hne4 := rl_ne4 (a := p * 8 + j) (by omega)
      have hT := (hTab.1 p hp (g p j) (by omega)).mpr ⟨j, hj, rfl⟩
      simp (disch := omega) only [hne4, wpY_savedValue, forall_eq, Nat.le_refl, rl_10, rl_n10, nI_leI, nI_ltI, nI_eq, vp_in_nI, nI_clamp, nI_1, nI_add, rl_lt0, rl_0le, rl_eq0, rl_eq1, rl_eq2, rl_m1, rl_m8, rl_m100, rl_vb0, rl_vb1, true_implies, forall_const, not_true_eq_false, not_false_eq_true, false_implies, and_true, true_and, implies_true, and_self]
      refine ry_bad hp n4 ?_
      refine br_t rfl ?_
      rw [← ej]
      refine ry_isSt (by omega) (by omega) (fun _ => ?_) (fun z => absurd z hT)
      simp (disch := omega) only [forall_eq, Nat.le_refl, rl_10, rl_n10, nI_leI, nI_ltI, nI_eq, vp_in_nI, nI_clamp, nI_1, nI_add, rl_lt0, rl_0le, rl_eq0, rl_eq1, rl_eq2, rl_m1, rl_m8, rl_m100, rl_vb0, rl_vb1, true_implies, forall_const, not_true_eq_false, not_false_eq_true, false_implies, and_true, true_and, implies_true, and_self]
      exact ⟨(hTab.2.2 p hp j hj).symm, rl_mk hR⟩
    · refine br_t rfl ?_
      simp only [wpY_savedValue]
      refine ry_bad hp n4 ?_
      refine br_t rfl ?_
      rcases pk_ix v2 (show 100 < 2 ^ 31 by omega) with h | h | ⟨i, hi, rfl⟩
      · refine ry_isStN h ?_
        exact br_t rfl ⟨by trivial, rl_mk hR⟩
      · refine ry_isStG h ?_
        exact br_t rfl ⟨by trivial, rl_mk hR⟩
      · refine ry_isSt (by omega) hi (fun z => ?_) (fun _ => ?_)
        · obtain ⟨j, hj, ej⟩ := (hTab.1 p hp i hi).mp z
          exact absurd (by rw [ej]) (hn j hj)
        · exact br_t rfl ⟨by trivial, rl_mk hR⟩
theorem i_vc_needed {k : Nat} {u : SX} {v : SY} (I : i_Rel k u v) (hk : k + 3 ≤ 1539) (v1 : Int32) (v2 : Int32) : wpX_needed (fun r u' => wpY_needed (fun r' v' => r' = r ∧ i_Rel (k + 3) u' v') v v1 v2) u v1 v2 := by
  obtain ⟨n, c, m, iv, ct, st, sd, rc, si, ri, g, vX, vY, IV, U, CT, NB, SV, TB, TS, ST, SD, RC, PL, SI, RI, LN, ND, SE, CP, KP, SL, rfl, rfl, hR⟩ := I
  have hR' := hR
  obtain ⟨hA, hTab, hU, hV⟩ := hR'
  have hA' := hA
  obtain ⟨hW, hIV, hCT, hNB, hST, hSD, hRC, hSI, hRI⟩ := hA'
  have hW' := hW
  obtain ⟨⟨⟨n2, n4⟩, ⟨c3, c8⟩, ⟨m4, m16⟩⟩, hS, hM, _⟩ := hW'
  have h10 : ¬ (1 : Int32) = 0 := by decide
  have hB := rl_B_of hR
  obtain ⟨Ls, hL⟩ := Classical.axiomOfChoice (rl_exL hW)
  rcases pk_ix v1 (show n < 2 ^ 31 by omega) with h | h | ⟨p, hp, rfl⟩
  · simp only [wpX_needed]
    refine rx_badN h ?_
    refine br_f h10 ?_
    simp only [wpY_needed]
    refine ry_badN h ?_
    exact br_f h10 ⟨by trivial, rl_mk hR⟩
  · simp only [wpX_needed]
    refine rx_badG h ?_
    refine br_f h10 ?_
    simp only [wpY_needed]
    refine ry_badG h ?_
    exact br_f h10 ⟨by trivial, rl_mk hR⟩
  · obtain ⟨s1, s2, s3, s4, s5⟩ := hS p hp
    simp only [wpX_needed]
    refine rx_bad hp n4 ?_
    refine br_t rfl ?_
    refine rx_cellOf (K := ct p) (gp := g p) (by omega) (by omega) (hCT p) (hNB p hp) (fun j hj ej => ?_) (fun hn => ?_)
    · have hg := s4 j hj
      have hne4 := rl_ne4 (a := p * 8 + j) (by omega)
      have hT := (hTab.1 p hp (g p j) (by omega)).mpr ⟨j, hj, rfl⟩
      refine br_f hne4 ?_
      refine rx_mns hA hL (fun LN1 ND1 SE1 r1 r2 => ?_)
      have hr := r1 p hp j hj
      by_cases a : ND1 (p * 8 + j) = 0
      · simp (disch := omega) only [a, wpY_needed, forall_eq, Nat.le_refl, rl_10, rl_n10, nI_leI, nI_ltI, nI_eq, vp_in_nI, nI_clamp, nI_1, nI_add, rl_lt0, rl_0le, rl_eq0, rl_eq1, rl_eq2, rl_m1, rl_m8, rl_m100, rl_vb0, rl_vb1, true_implies, forall_const, not_true_eq_false, not_false_eq_true, false_implies, and_true, true_and, implies_true, and_self]
        refine ry_bad hp n4 ?_
        refine br_t rfl ?_
        rw [← ej]
        refine ry_isSt (by omega) (by omega) (fun _ => ?_) (fun z => absurd z hT)
        refine br_f h10 ?_
        refine ry_judge hB hL (fun CP1 KP1 SL1 r3 r4 => ?_)
        have hk2 := r3 p hp j hj
        have b : KP1 (p * 100 + g p j) = 0 := by
          apply Classical.byContradiction
          intro z
          exact (hr.mpr (hk2.mp z)) a
        simp (disch := omega) only [b, forall_eq, Nat.le_refl, rl_10, rl_n10, nI_leI, nI_ltI, nI_eq, vp_in_nI, nI_clamp, nI_1, nI_add, rl_lt0, rl_0le, rl_eq0, rl_eq1, rl_eq2, rl_m1, rl_m8, rl_m100, rl_vb0, rl_vb1, true_implies, forall_const, not_true_eq_false, not_false_eq_true, false_implies, and_true, true_and, implies_true, and_self]
        exact rl_mk hR
      · simp (disch := omega) only [a, wpY_needed, forall_eq, Nat.le_refl, rl_10, rl_n10, nI_leI, nI_ltI, nI_eq, vp_in_nI, nI_clamp, nI_1, nI_add, rl_lt0, rl_0le, rl_eq0, rl_eq1, rl_eq2, rl_m1, rl_m8, rl_m100, rl_vb0, rl_vb1, true_implies, forall_const, not_true_eq_false, not_false_eq_true, false_implies, and_true, true_and, implies_true, and_self]
        refine ry_bad hp n4 ?_
        refine br_t rfl ?_
        rw [← ej]
        refine ry_isSt (by omega) (by omega) (fun _ => ?_) (fun z => absurd z hT)
        refine br_f h10 ?_
        refine ry_judge hB hL (fun CP1 KP1 SL1 r3 r4 => ?_)
        have hk2 := r3 p hp j hj
        have b : ¬ KP1 (p * 100 + g p j) = 0 := hk2.mpr (hr.mp a)
        simp (disch := omega) only [b, forall_eq, Nat.le_refl, rl_10, rl_n10, nI_leI, nI_ltI, nI_eq, vp_in_nI, nI_clamp, nI_1, nI_add, rl_lt0, rl_0le, rl_eq0, rl_eq1, rl_eq2, rl_m1, rl_m8, rl_m100, rl_vb0, rl_vb1, true_implies, forall_const, not_true_eq_false, not_false_eq_true, false_implies, and_true, true_and, implies_true, and_self]
        exact rl_mk hR
    · refine br_t rfl ?_
      simp only [wpY_needed]
      refine ry_bad hp n4 ?_
      refine br_t rfl ?_
      rcases pk_ix v2 (show 100 < 2 ^ 31 by omega) with h | h | ⟨i, hi, rfl⟩
      · refine ry_isStN h ?_
        exact br_t rfl ⟨by trivial, rl_mk hR⟩
      · refine ry_isStG h ?_
        exact br_t rfl ⟨by trivial, rl_mk hR⟩
      · refine ry_isSt (by omega) hi (fun z => ?_) (fun _ => ?_)
        · obtain ⟨j, hj, ej⟩ := (hTab.1 p hp i hi).mp z
          exact absurd (by rw [ej]) (hn j hj)
        · exact br_t rfl ⟨by trivial, rl_mk hR⟩
theorem i_vc_probe {k : Nat} {u : SX} {v : SY} (I : i_Rel k u v) (hk : k + 3 ≤ 1539) (v1 : Int32) (v2 : Int32) : wpX_probe (fun r u' => wpY_probe (fun r' v' => r' = r ∧ i_Rel (k + 3) u' v') v v1 v2) u v1 v2 := by
  obtain ⟨n, c, m, iv, ct, st, sd, rc, si, ri, g, vX, vY, IV, U, CT, NB, SV, TB, TS, ST, SD, RC, PL, SI, RI, LN, ND, SE, CP, KP, SL, rfl, rfl, hR⟩ := I
  have hR' := hR
  obtain ⟨hA, hTab, hU, hV⟩ := hR'
  have hA' := hA
  obtain ⟨hW, hIV, hCT, hNB, hST, hSD, hRC, hSI, hRI⟩ := hA'
  have hW' := hW
  obtain ⟨⟨⟨n2, n4⟩, ⟨c3, c8⟩, ⟨m4, m16⟩⟩, hS, hM, _⟩ := hW'
  have h10 : ¬ (1 : Int32) = 0 := by decide
  have hB := rl_B_of hR
  rcases pk_ix v2 (show n < 2 ^ 31 by omega) with h | h | ⟨p, hp, rfl⟩
  · simp only [wpX_probe]
    refine rx_badN h ?_
    refine br_f h10 ?_
    simp only [wpY_probe]
    refine ry_badN h ?_
    exact br_f h10 ⟨by trivial, rl_mk hR⟩
  · simp only [wpX_probe]
    refine rx_badG h ?_
    refine br_f h10 ?_
    simp only [wpY_probe]
    refine ry_badG h ?_
    exact br_f h10 ⟨by trivial, rl_mk hR⟩
  · obtain ⟨s1, s2, s3, s4, s5⟩ := hS p hp
    obtain ⟨L, hL⟩ := rl_exL hW (rl_or (rl_dn U) n ||| v1)
    have hG := rl_G_100 hS (L p) hp
    have hLe : L p ≤ ct p := Nat.le_trans (hL.1 p hp) (rl_tp_le ct _ p)
    simp only [wpX_probe]
    refine rx_bad hp n4 ?_
    refine br_t rfl ?_
    refine rx_down n4 ?_
    try dsimp only
    refine rx_find hA hL (fun LN1 r1 => ?_)
    try dsimp only
    refine rx_isNow (v := iv p) (y := rl_G ct g iv p (L p)) (by omega) (by omega) (by omega) (hIV p) (r1 p hp) (fun a => ?_) (fun a => ?_)
    · have hc : ¬ L p < ct p := by
        intro z
        rw [rl_G_in z] at a
        have := s4 _ z
        omega
      have hGn : rl_G ct g iv p (L p) = iv p + 1 := rl_G_now hc
      refine br_f h10 ?_
      simp only [wpY_probe]
      refine ry_bad hp n4 ?_
      refine br_t rfl ?_
      refine ry_down n2 n4 ?_
      refine nm_e ?_
      refine ry_line hB hL (fun CP1 r3 => ?_)
      have hcp := r3 p hp
      rw [hGn] at hcp
      simp (disch := omega) only [hcp, hIV, forall_eq, Nat.le_refl, rl_10, rl_n10, nI_leI, nI_ltI, nI_eq, vp_in_nI, nI_clamp, nI_1, nI_add, rl_lt0, rl_0le, rl_eq0, rl_eq1, rl_eq2, rl_m1, rl_m8, rl_m100, rl_vb0, rl_vb1, true_implies, forall_const, not_true_eq_false, not_false_eq_true, false_implies, and_true, true_and, implies_true, and_self]
      exact rl_mk hR
    · have hc : L p < ct p := by
        by_cases z : L p < ct p
        · exact z
        · rw [rl_G_now z] at a; omega
      have hne : ¬ rl_G ct g iv p (L p) = iv p + 1 := by omega
      have hln := r1 p hp
      simp (disch := omega) only [hln, wpY_probe, forall_eq, Nat.le_refl, rl_10, rl_n10, nI_leI, nI_ltI, nI_eq, vp_in_nI, nI_clamp, nI_1, nI_add, rl_lt0, rl_0le, rl_eq0, rl_eq1, rl_eq2, rl_m1, rl_m8, rl_m100, rl_vb0, rl_vb1, true_implies, forall_const, not_true_eq_false, not_false_eq_true, false_implies, and_true, true_and, implies_true, and_self]
      refine ry_bad hp n4 ?_
      refine br_t rfl ?_
      refine ry_down n2 n4 ?_
      try dsimp only
      refine ry_line hB hL (fun CP1 r3 => ?_)
      have hcp := r3 p hp
      simp (disch := omega) only [hcp, hIV, hne, forall_eq, Nat.le_refl, rl_10, rl_n10, nI_leI, nI_ltI, nI_eq, vp_in_nI, nI_clamp, nI_1, nI_add, rl_lt0, rl_0le, rl_eq0, rl_eq1, rl_eq2, rl_m1, rl_m8, rl_m100, rl_vb0, rl_vb1, true_implies, forall_const, not_true_eq_false, not_false_eq_true, false_implies, and_true, true_and, implies_true, and_self]
      exact rl_mk hR
theorem i_vc_recover {k : Nat} {u : SX} {v : SY} (I : i_Rel k u v) (hk : k + 3 ≤ 1539) : wpX_recover (fun r u' => wpY_recover (fun r' v' => r' = r ∧ i_Rel (k + 3) u' v') v) u := by
  obtain ⟨n, c, m, iv, ct, st, sd, rc, si, ri, g, vX, vY, IV, U, CT, NB, SV, TB, TS, ST, SD, RC, PL, SI, RI, LN, ND, SE, CP, KP, SL, rfl, rfl, hR⟩ := I
  have hR' := hR
  obtain ⟨hA, hTab, hU, hV⟩ := hR'
  have hA' := hA
  obtain ⟨hW, hIV, hCT, hNB, hST, hSD, hRC, hSI, hRI⟩ := hA'
  have hW' := hW
  obtain ⟨⟨⟨n2, n4⟩, ⟨c3, c8⟩, ⟨m4, m16⟩⟩, hS, hM, _⟩ := hW'
  have h10 : ¬ (1 : Int32) = 0 := by decide
  have hB := rl_B_of hR
  obtain ⟨L, hL⟩ := rl_exL hW (rl_or (rl_dn U) n)
  refine rx_recover hA hL (fun z => ?_) (fun z LN1 => ?_)
  · exact ry_recover hB hL (fun _ => ⟨by trivial, rl_mk hR⟩) (fun y => absurd z y)
  · exact ry_recover hB hL (fun y => absurd y z) (fun _ CP1 => ⟨by trivial, rl_mk (rl_R_recover hR hL)⟩)
theorem i_vc_reclaim {k : Nat} {u : SX} {v : SY} (I : i_Rel k u v) (hk : k + 3 ≤ 1539) : wpX_reclaim (fun r u' => wpY_reclaim (fun r' v' => r' = r ∧ i_Rel (k + 3) u' v') v) u := by
  obtain ⟨n, c, m, iv, ct, st, sd, rc, si, ri, g, vX, vY, IV, U, CT, NB, SV, TB, TS, ST, SD, RC, PL, SI, RI, LN, ND, SE, CP, KP, SL, rfl, rfl, hR⟩ := I
  have hR' := hR
  obtain ⟨hA, hTab, hU, hV⟩ := hR'
  have hA' := hA
  obtain ⟨hW, hIV, hCT, hNB, hST, hSD, hRC, hSI, hRI⟩ := hA'
  have hW' := hW
  obtain ⟨⟨⟨n2, n4⟩, ⟨c3, c8⟩, ⟨m4, m16⟩⟩, hS, hM, _⟩ := hW'
  have h10 : ¬ (1 : Int32) = 0 := by decide
  have hB := rl_B_of hR
  obtain ⟨Ls, hL⟩ := Classical.axiomOfChoice (rl_exL hW)
  refine rx_reclaim hA hL (fun LN1 ND1 SE1 NB1 SV1 f r1 r2 r3 r4 => ?_)
  refine ry_reclaim hB hL (fun CP1 KP1 SL1 r5 r6 => ?_)
  obtain ⟨e1, e2, e3⟩ := rl_R_reclaim hR hL r1 r2 r3 r4 r5 r6
  rw [e1, e2]
  exact ⟨by trivial, rl_mk e3⟩
