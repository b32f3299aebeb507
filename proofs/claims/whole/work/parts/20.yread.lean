section
variable {n c m : Nat} {iv ct st sd rc si ri : Nat → Nat} {g : Nat → Nat → Nat}
variable {vY IV U TB TS ST SD RC PL SI RI CP KP SL : Nat → Int32}
theorem ry_bad {post : Int32 → Prop} {p : Nat} (hp : p < n) (n4 : n ≤ 4) (k : post 0) : wpY_bad post (nI n, nI c, nI m, vY, IV, U, TB, TS, ST, SD, RC, PL, SI, RI, CP, KP, SL) (nI p) := by
  simp (disch := omega) only [wpY_bad, hp, forall_eq, Nat.le_refl, rl_10, rl_n10, nI_leI, nI_ltI, nI_eq, vp_in_nI, nI_clamp, nI_1, nI_add, rl_lt0, rl_0le, rl_eq0, rl_eq1, rl_eq2, rl_m1, rl_m8, rl_m100, rl_vb0, rl_vb1, true_implies, forall_const, not_true_eq_false, not_false_eq_true, false_implies, and_true, true_and, implies_true, and_self]
  exact k
theorem ry_badN {post : Int32 → Prop} {x : Int32} (h : x < 0) (k : post 1) : wpY_bad post (nI n, nI c, nI m, vY, IV, U, TB, TS, ST, SD, RC, PL, SI, RI, CP, KP, SL) x := by
  simp only [wpY_bad, h, forall_eq, Nat.le_refl, rl_10, rl_n10, nI_leI, nI_ltI, nI_eq, vp_in_nI, nI_clamp, nI_1, nI_add, rl_lt0, rl_0le, rl_eq0, rl_eq1, rl_eq2, rl_m1, rl_m8, rl_m100, rl_vb0, rl_vb1, true_implies, forall_const, not_true_eq_false, not_false_eq_true, false_implies, and_true, true_and, implies_true, and_self]
  exact k
theorem ry_badG {post : Int32 → Prop} {x : Int32} (h : nI n ≤ x) (k : post 1) : wpY_bad post (nI n, nI c, nI m, vY, IV, U, TB, TS, ST, SD, RC, PL, SI, RI, CP, KP, SL) x := by
  have h' : ¬ x < nI n := Int32.not_lt.mpr h
  simp only [wpY_bad, h', forall_eq, Nat.le_refl, rl_10, rl_n10, nI_leI, nI_ltI, nI_eq, vp_in_nI, nI_clamp, nI_1, nI_add, rl_lt0, rl_0le, rl_eq0, rl_eq1, rl_eq2, rl_m1, rl_m8, rl_m100, rl_vb0, rl_vb1, true_implies, forall_const, not_true_eq_false, not_false_eq_true, false_implies, and_true, true_and, implies_true, and_self]
  exact ⟨fun _ => k, fun _ => k⟩
theorem ry_badS {post : Int32 → Prop} {p : Nat} (hp : p < m) (n4 : m ≤ 16) (k : post 0) : wpY_badSlot post (nI n, nI c, nI m, vY, IV, U, TB, TS, ST, SD, RC, PL, SI, RI, CP, KP, SL) (nI p) := by
  simp (disch := omega) only [wpY_badSlot, hp, forall_eq, Nat.le_refl, rl_10, rl_n10, nI_leI, nI_ltI, nI_eq, vp_in_nI, nI_clamp, nI_1, nI_add, rl_lt0, rl_0le, rl_eq0, rl_eq1, rl_eq2, rl_m1, rl_m8, rl_m100, rl_vb0, rl_vb1, true_implies, forall_const, not_true_eq_false, not_false_eq_true, false_implies, and_true, true_and, implies_true, and_self]
  exact k
theorem ry_badSN {post : Int32 → Prop} {x : Int32} (h : x < 0) (k : post 1) : wpY_badSlot post (nI n, nI c, nI m, vY, IV, U, TB, TS, ST, SD, RC, PL, SI, RI, CP, KP, SL) x := by
  simp only [wpY_badSlot, h, forall_eq, Nat.le_refl, rl_10, rl_n10, nI_leI, nI_ltI, nI_eq, vp_in_nI, nI_clamp, nI_1, nI_add, rl_lt0, rl_0le, rl_eq0, rl_eq1, rl_eq2, rl_m1, rl_m8, rl_m100, rl_vb0, rl_vb1, true_implies, forall_const, not_true_eq_false, not_false_eq_true, false_implies, and_true, true_and, implies_true, and_self]
  exact k
theorem ry_badSG {post : Int32 → Prop} {x : Int32} (h : nI m ≤ x) (k : post 1) : wpY_badSlot post (nI n, nI c, nI m, vY, IV, U, TB, TS, ST, SD, RC, PL, SI, RI, CP, KP, SL) x := by
  have h' : ¬ x < nI m := Int32.not_lt.mpr h
  simp only [wpY_badSlot, h', forall_eq, Nat.le_refl, rl_10, rl_n10, nI_leI, nI_ltI, nI_eq, vp_in_nI, nI_clamp, nI_1, nI_add, rl_lt0, rl_0le, rl_eq0, rl_eq1, rl_eq2, rl_m1, rl_m8, rl_m100, rl_vb0, rl_vb1, true_implies, forall_const, not_true_eq_false, not_false_eq_true, false_implies, and_true, true_and, implies_true, and_self]
  exact ⟨fun _ => k, fun _ => k⟩
theorem ry_isSt {post : Int32 → Prop} {p i : Nat} (hp : p < 4) (hi : i < 100) (h1 : ¬ TB (p * 100 + i) = 0 → post 1) (h0 : TB (p * 100 + i) = 0 → post 0) :
    wpY_isStored post (nI n, nI c, nI m, vY, IV, U, TB, TS, ST, SD, RC, PL, SI, RI, CP, KP, SL) (nI p) (nI i) := by
  have e1 : i ≤ 99 := by omega
  have e2 : ¬ 99 < i := by omega
  by_cases e : TB (p * 100 + i) = 0
  · simp (disch := omega) only [wpY_isStored, rl_99l, rl_99g, e1, e2, e, forall_eq, Nat.le_refl, rl_10, rl_n10, nI_leI, nI_ltI, nI_eq, vp_in_nI, nI_clamp, nI_1, nI_add, rl_lt0, rl_0le, rl_eq0, rl_eq1, rl_eq2, rl_m1, rl_m8, rl_m100, rl_vb0, rl_vb1, true_implies, forall_const, not_true_eq_false, not_false_eq_true, false_implies, and_true, true_and, implies_true, and_self]
    exact h0 e
  · simp (disch := omega) only [wpY_isStored, rl_99l, rl_99g, e1, e2, e, forall_eq, Nat.le_refl, rl_10, rl_n10, nI_leI, nI_ltI, nI_eq, vp_in_nI, nI_clamp, nI_1, nI_add, rl_lt0, rl_0le, rl_eq0, rl_eq1, rl_eq2, rl_m1, rl_m8, rl_m100, rl_vb0, rl_vb1, true_implies, forall_const, not_true_eq_false, not_false_eq_true, false_implies, and_true, true_and, implies_true, and_self]
    exact h1 e
theorem ry_down_l {post : Int32 → Prop} (n4 : n ≤ 4) (hpost : post (rl_ad (rl_dn U) n)) :
    ∀ (fu p : Nat), n < fu + p → p ≤ n → wY_downSet_4 post (nI n) (nI c) (nI m) vY IV U TB TS ST SD RC PL SI RI CP KP SL fu (rl_ad (rl_dn U) p) (nI p) := by
  intro fu
  induction fu with
  | zero => intro p q1 q2; omega
  | succ fu ih =>
    intro p q1 q2
    by_cases e : n ≤ p
    · have e2 : p = n := by omega
      simp (disch := omega) only [wY_downSet_4, e, forall_eq, Nat.le_refl, rl_10, rl_n10, nI_leI, nI_ltI, nI_eq, vp_in_nI, nI_clamp, nI_1, nI_add, rl_lt0, rl_0le, rl_eq0, rl_eq1, rl_eq2, rl_m1, rl_m8, rl_m100, rl_vb0, rl_vb1, true_implies, forall_const, not_true_eq_false, not_false_eq_true, false_implies, and_true, true_and, implies_true, and_self]
      rw [e2]; exact hpost
    · have h4 : p < 4 := by omega
      by_cases l : U p = 0
      · have hd : rl_dn U p = true := decide_eq_true l
        simp (disch := omega) only [wY_downSet_4, e, l, forall_eq, Nat.le_refl, rl_10, rl_n10, nI_leI, nI_ltI, nI_eq, vp_in_nI, nI_clamp, nI_1, nI_add, rl_lt0, rl_0le, rl_eq0, rl_eq1, rl_eq2, rl_m1, rl_m8, rl_m100, rl_vb0, rl_vb1, true_implies, forall_const, not_true_eq_false, not_false_eq_true, false_implies, and_true, true_and, implies_true, and_self]
        have := ih (p + 1) (by omega) (by omega)
        rw [rl_ad_t hd] at this
        exact this
      · have hd : ¬ rl_dn U p = true := fun z => l (of_decide_eq_true z)
        simp (disch := omega) only [wY_downSet_4, e, l, forall_eq, Nat.le_refl, rl_10, rl_n10, nI_leI, nI_ltI, nI_eq, vp_in_nI, nI_clamp, nI_1, nI_add, rl_lt0, rl_0le, rl_eq0, rl_eq1, rl_eq2, rl_m1, rl_m8, rl_m100, rl_vb0, rl_vb1, true_implies, forall_const, not_true_eq_false, not_false_eq_true, false_implies, and_true, true_and, implies_true, and_self]
        have := ih (p + 1) (by omega) (by omega)
        rw [rl_ad_f hd] at this
        exact this
theorem ry_down {post : Int32 → Prop} (n2 : 2 ≤ n) (n4 : n ≤ 4) (hpost : post (rl_or (rl_dn U) n)) : wpY_downSet post (nI n, nI c, nI m, vY, IV, U, TB, TS, ST, SD, RC, PL, SI, RI, CP, KP, SL) := by
  simp only [wpY_downSet]
  rw [rl_orad _ n2 n4] at hpost
  exact ⟨n + 1, ry_down_l n4 hpost (n + 1) 0 (by omega) (by omega)⟩
theorem ry_lower_l (hB : rl_AY n c m iv ct g st sd rc si ri IV TB ST SD RC SI RI) {post : Int32 → Prop} {p k : Nat} (hp : p < n) (hk : k ≤ ct p) (h0 : k = 0 → post (-1)) (h1 : ∀ j, k = j + 1 → post (nI (rl_G ct g iv p j))) :
    ∀ (fu r : Nat) (x : Int32), r < fu → r ≤ rl_G ct g iv p k → (∀ j, j < ct p → r ≤ g p j → g p j < rl_G ct g iv p k → False) → x = nI r - 1 →
      wY_lower_4 post (nI p) (nI n) (nI c) (nI m) vY IV U TB TS ST SD RC PL SI RI CP KP SL fu x := by
  have hB' := hB
  obtain ⟨hW, hIV, hT, hST, hSD, hRC, hSI, hRI⟩ := hB'
  have hW' := hW
  obtain ⟨⟨⟨n2, n4⟩, ⟨c3, c8⟩, ⟨m4, m16⟩⟩, hS, hM, _⟩ := hW'
  have h100 := rl_G_100 hS k hp
  intro fu
  induction fu with
  | zero => intro r x q1; omega
  | succ fu ih =>
    intro r x q1 q2 q3 q4
    cases r with
    | zero =>
      have hx : x < 0 := by rw [q4]; decide
      have hk0 : k = 0 := by
        by_cases z : k = 0
        · exact z
        · exfalso
          have hk1 : k - 1 < ct p := by omega
          have := rl_G_lt hS hp (j := k - 1) (k := k) (by omega) hk
          rw [rl_G_in hk1] at this
          exact q3 (k - 1) hk1 (by omega) this
      simp (disch := omega) only [wY_lower_4, hx, forall_eq, Nat.le_refl, rl_10, rl_n10, nI_leI, nI_ltI, nI_eq, vp_in_nI, nI_clamp, nI_1, nI_add, rl_lt0, rl_0le, rl_eq0, rl_eq1, rl_eq2, rl_m1, rl_m8, rl_m100, rl_vb0, rl_vb1, true_implies, forall_const, not_true_eq_false, not_false_eq_true, false_implies, and_true, true_and, implies_true, and_self]
      exact h0 hk0
    | succ i =>
      have hx : x = nI i := by rw [q4]; exact nI_pred i
      rw [hx]
      simp (disch := omega) only [wY_lower_4, forall_eq, Nat.le_refl, rl_10, rl_n10, nI_leI, nI_ltI, nI_eq, vp_in_nI, nI_clamp, nI_1, nI_add, rl_lt0, rl_0le, rl_eq0, rl_eq1, rl_eq2, rl_m1, rl_m8, rl_m100, rl_vb0, rl_vb1, true_implies, forall_const, not_true_eq_false, not_false_eq_true, false_implies, and_true, true_and, implies_true, and_self]
      refine ry_isSt (by omega) (by omega) (fun a => ?_) (fun a => ?_)
      · obtain ⟨j, hj, ej⟩ := (hT p hp i (by omega)).mp a
        have hjk : j < k := by
          by_cases z : j < k
          · exact z
          · exfalso
            have := rl_G_le hS hp (j := k) (k := j) (by omega) (by omega)
            rw [rl_G_in hj] at this
            omega
        have hjk2 : k = j + 1 := by
          by_cases z : k = j + 1
          · exact z
          · exfalso
            have hj1 : j + 1 < ct p := by omega
            have a1 := rl_G_lt hS hp (j := j) (k := j + 1) (by omega) (by omega)
            have a2 := rl_G_lt hS hp (j := j + 1) (k := k) (by omega) hk
            rw [rl_G_in hj, rl_G_in hj1] at a1
            rw [rl_G_in hj1] at a2
            exact q3 (j + 1) hj1 (by omega) a2
        have h10 : ¬ (1 : Int32) = 0 := by decide
        simp (disch := omega) only [h10, forall_eq, Nat.le_refl, rl_10, rl_n10, nI_leI, nI_ltI, nI_eq, vp_in_nI, nI_clamp, nI_1, nI_add, rl_lt0, rl_0le, rl_eq0, rl_eq1, rl_eq2, rl_m1, rl_m8, rl_m100, rl_vb0, rl_vb1, true_implies, forall_const, not_true_eq_false, not_false_eq_true, false_implies, and_true, true_and, implies_true, and_self]
        have := h1 j hjk2
        rw [rl_G_in hj, ej] at this
        exact this
      · try simp (disch := omega) only [forall_eq, Nat.le_refl, rl_10, rl_n10, nI_leI, nI_ltI, nI_eq, vp_in_nI, nI_clamp, nI_1, nI_add, rl_lt0, rl_0le, rl_eq0, rl_eq1, rl_eq2, rl_m1, rl_m8, rl_m100, rl_vb0, rl_vb1, true_implies, forall_const, not_true_eq_false, not_false_eq_true, false_implies, and_true, true_and, implies_true, and_self]
        refine ih i _ (by omega) (by omega) (fun j hj b1 b2 => ?_) (show nI i + (-1) = nI i - 1 from ?_)
        · by_cases z : g p j = i
          · exact ((hT p hp i (by omega)).mpr ⟨j, hj, z⟩) a
          · exact q3 j hj (by omega) b2
        · exact (Int32.sub_eq_add_neg (nI i) 1).symm
theorem ry_lower (hB : rl_AY n c m iv ct g st sd rc si ri IV TB ST SD RC SI RI) {post : Int32 → Prop} {p k : Nat} (hp : p < n) (hk : k ≤ ct p) (h0 : k = 0 → post (-1)) (h1 : ∀ j, k = j + 1 → post (nI (rl_G ct g iv p j))) :
    wpY_lower post (nI n, nI c, nI m, vY, IV, U, TB, TS, ST, SD, RC, PL, SI, RI, CP, KP, SL) (nI p) (nI (rl_G ct g iv p k)) := by
  simp only [wpY_lower, forall_eq, Nat.le_refl, rl_10, rl_n10, nI_leI, nI_ltI, nI_eq, vp_in_nI, nI_clamp, nI_1, nI_add, rl_lt0, rl_0le, rl_eq0, rl_eq1, rl_eq2, rl_m1, rl_m8, rl_m100, rl_vb0, rl_vb1, true_implies, forall_const, not_true_eq_false, not_false_eq_true, false_implies, and_true, true_and, implies_true, and_self]
  exact ⟨rl_G ct g iv p k + 1, ry_lower_l hB hp hk h0 h1 _ (rl_G ct g iv p k) _ (by omega) (Nat.le_refl _) (fun j _ a b => by omega) rfl⟩
theorem ry_top (hB : rl_AY n c m iv ct g st sd rc si ri IV TB ST SD RC SI RI) {post : Int32 → Prop} {p : Nat} {T : Int32} (hp : p < n) (h : post (nI (rl_G ct g iv p (rl_tp ct T p)))) : wpY_top post (nI n, nI c, nI m, vY, IV, U, TB, TS, ST, SD, RC, PL, SI, RI, CP, KP, SL) (nI p) T := by
  have hB' := hB
  obtain ⟨hW, hIV, hT, hST, hSD, hRC, hSI, hRI⟩ := hB'
  have hW' := hW
  obtain ⟨⟨⟨n2, n4⟩, ⟨c3, c8⟩, ⟨m4, m16⟩⟩, hS, hM, _⟩ := hW'
  obtain ⟨s1, s2, s3, s4, s5⟩ := hS p hp
  by_cases l : (T &&& ((1 : Int32) <<< (nI p &&& 31))) = 0
  · have ht : rl_tp ct T p = ct p := if_pos l
    rw [ht, rl_G_now (by omega)] at h
    simp (disch := omega) only [wpY_top, l, hIV, forall_eq, Nat.le_refl, rl_10, rl_n10, nI_leI, nI_ltI, nI_eq, vp_in_nI, nI_clamp, nI_1, nI_add, rl_lt0, rl_0le, rl_eq0, rl_eq1, rl_eq2, rl_m1, rl_m8, rl_m100, rl_vb0, rl_vb1, true_implies, forall_const, not_true_eq_false, not_false_eq_true, false_implies, and_true, true_and, implies_true, and_self]
    exact h
  · have ht : rl_tp ct T p = ct p - 1 := if_neg l
    rw [ht] at h
    simp (disch := omega) only [wpY_top, l, hIV, forall_eq, Nat.le_refl, rl_10, rl_n10, nI_leI, nI_ltI, nI_eq, vp_in_nI, nI_clamp, nI_1, nI_add, rl_lt0, rl_0le, rl_eq0, rl_eq1, rl_eq2, rl_m1, rl_m8, rl_m100, rl_vb0, rl_vb1, true_implies, forall_const, not_true_eq_false, not_false_eq_true, false_implies, and_true, true_and, implies_true, and_self]
    have hG : rl_G ct g iv p (ct p) = iv p + 1 := rl_G_now (by omega)
    have := ry_lower hB (post := post) hp (k := ct p) (Nat.le_refl _) (fun z => absurd z (by omega)) (fun j hj => by
      have : ct p - 1 = j := by omega
      rw [← this]; exact h) (vY := vY) (U := U) (TS := TS) (PL := PL) (CP := CP) (KP := KP) (SL := SL)
    rw [hG] at this
    exact this
theorem ry_cons_l (hB : rl_AY n c m iv ct g st sd rc si ri IV TB ST SD RC SI RI) {post : Int32 → Prop} {κ : Nat → Nat} (hx : ∀ q, q < n → CP q = nI (rl_G ct g iv q (κ q))) (h1 : rl_C m iv ct g st sd rc si ri κ → post 1)
    (h0 : ¬ rl_C m iv ct g st sd rc si ri κ → post 0) : ∀ (fu s : Nat), m < fu + s → s ≤ m →
      (∀ j, j < s → st j = 2 → ri j < rl_G ct g iv (rc j) (κ (rc j)) → si j < rl_G ct g iv (sd j) (κ (sd j))) → wY_consistent_2 post (nI n) (nI c) (nI m) vY IV U TB TS ST SD RC PL SI RI CP KP SL fu (nI s) := by
  have hB' := hB
  obtain ⟨hW, hIV, hT, hST, hSD, hRC, hSI, hRI⟩ := hB'
  have hW' := hW
  obtain ⟨⟨⟨n2, n4⟩, ⟨c3, c8⟩, ⟨m4, m16⟩⟩, hS, hM, _⟩ := hW'
  intro fu
  induction fu with
  | zero => intro s q1 q2; omega
  | succ fu ih =>
    intro s q1 q2 q3
    by_cases e : m ≤ s
    · simp (disch := omega) only [wY_consistent_2, e, forall_eq, Nat.le_refl, rl_10, rl_n10, nI_leI, nI_ltI, nI_eq, vp_in_nI, nI_clamp, nI_1, nI_add, rl_lt0, rl_0le, rl_eq0, rl_eq1, rl_eq2, rl_m1, rl_m8, rl_m100, rl_vb0, rl_vb1, true_implies, forall_const, not_true_eq_false, not_false_eq_true, false_implies, and_true, true_and, implies_true, and_self]
      exact h1 (fun j hj => q3 j (by omega))
    · have hs : s < m := by omega
      obtain ⟨t1, t2, t3, t4, t5⟩ := hM.1 s
      have x1 := hx _ t2
      have x2 := hx _ t3
      have g1 := rl_G_100 hS (κ (sd s)) t2
      have g2 := rl_G_100 hS (κ (rc s)) t3
      have nxt : (st s = 2 → ri s < rl_G ct g iv (rc s) (κ (rc s)) → si s < rl_G ct g iv (sd s) (κ (sd s))) → wY_consistent_2 post (nI n) (nI c) (nI m) vY IV U TB TS ST SD RC PL SI RI CP KP SL fu (nI (s + 1)) := by
        intro hh
        refine ih (s + 1) (by omega) (by omega) (fun j hj => ?_)
        by_cases q : j = s
        · rw [q]; exact hh
        · exact q3 j (by omega)
      by_cases a : st s = 2
      · by_cases b : ri s < rl_G ct g iv (rc s) (κ (rc s))
        · have b2 : ¬ rl_G ct g iv (rc s) (κ (rc s)) ≤ ri s := by omega
          by_cases d : si s < rl_G ct g iv (sd s) (κ (sd s))
          · have d2 : ¬ rl_G ct g iv (sd s) (κ (sd s)) ≤ si s := by omega
            simp (disch := omega) only [wY_consistent_2, e, hST, a, hRC, hRI, hSD, hSI, x1, x2, b, b2, d, d2, forall_eq, Nat.le_refl, rl_10, rl_n10, nI_leI, nI_ltI, nI_eq, vp_in_nI, nI_clamp, nI_1, nI_add, rl_lt0, rl_0le, rl_eq0, rl_eq1, rl_eq2, rl_m1, rl_m8, rl_m100, rl_vb0, rl_vb1, true_implies, forall_const, not_true_eq_false, not_false_eq_true, false_implies, and_true, true_and, implies_true, and_self]
            exact nxt (fun _ _ => d)
          · have d2 : rl_G ct g iv (sd s) (κ (sd s)) ≤ si s := by omega
            simp (disch := omega) only [wY_consistent_2, e, hST, a, hRC, hRI, hSD, hSI, x1, x2, b, b2, d, d2, forall_eq, Nat.le_refl, rl_10, rl_n10, nI_leI, nI_ltI, nI_eq, vp_in_nI, nI_clamp, nI_1, nI_add, rl_lt0, rl_0le, rl_eq0, rl_eq1, rl_eq2, rl_m1, rl_m8, rl_m100, rl_vb0, rl_vb1, true_implies, forall_const, not_true_eq_false, not_false_eq_true, false_implies, and_true, true_and, implies_true, and_self]
            exact h0 (fun z => d (z s hs a b))
        · have b2 : rl_G ct g iv (rc s) (κ (rc s)) ≤ ri s := by omega
          simp (disch := omega) only [wY_consistent_2, e, hST, a, hRC, hRI, x2, b, b2, forall_eq, Nat.le_refl, rl_10, rl_n10, nI_leI, nI_ltI, nI_eq, vp_in_nI, nI_clamp, nI_1, nI_add, rl_lt0, rl_0le, rl_eq0, rl_eq1, rl_eq2, rl_m1, rl_m8, rl_m100, rl_vb0, rl_vb1, true_implies, forall_const, not_true_eq_false, not_false_eq_true, false_implies, and_true, true_and, implies_true, and_self]
          exact nxt (fun _ z => absurd z b)
      · simp (disch := omega) only [wY_consistent_2, e, hST, a, forall_eq, Nat.le_refl, rl_10, rl_n10, nI_leI, nI_ltI, nI_eq, vp_in_nI, nI_clamp, nI_1, nI_add, rl_lt0, rl_0le, rl_eq0, rl_eq1, rl_eq2, rl_m1, rl_m8, rl_m100, rl_vb0, rl_vb1, true_implies, forall_const, not_true_eq_false, not_false_eq_true, false_implies, and_true, true_and, implies_true, and_self]
        exact nxt (fun z => absurd z a)
theorem ry_cons (hB : rl_AY n c m iv ct g st sd rc si ri IV TB ST SD RC SI RI) {post : Int32 → Prop} {κ : Nat → Nat} (hx : ∀ q, q < n → CP q = nI (rl_G ct g iv q (κ q))) (h1 : rl_C m iv ct g st sd rc si ri κ → post 1)
    (h0 : ¬ rl_C m iv ct g st sd rc si ri κ → post 0) : wpY_consistent post (nI n, nI c, nI m, vY, IV, U, TB, TS, ST, SD, RC, PL, SI, RI, CP, KP, SL) := by
  simp only [wpY_consistent]
  exact ⟨m + 1, ry_cons_l hB hx h1 h0 (m + 1) 0 (by omega) (by omega) (fun j hj => absurd hj (by omega))⟩
end
