/-- 1 where a message is received -/
def rl_r2 (st : Nat → Nat) : Nat → Int32 := fun s => if st s = 2 then 1 else 0
section
variable {n c m : Nat} {iv ct st sd rc si ri : Nat → Nat} {g : Nat → Nat → Nat}
variable {vX IV U CT NB SV ST SD RC PL SI RI LN ND SE : Nat → Int32}
theorem rx_clear2_l (hA : rl_A n c m iv ct g st sd rc si ri IV CT NB ST SD RC SI RI) {post : St2 → Prop} (hpost : post (nI n, nI c, nI m, vX, IV, U, CT, NB, SV, ST, SD, RC, PL, SI, RI, LN, ND, rl_mix m (rl_r2 st) SE)) :
    ∀ (fu s : Nat), m < fu + s → s ≤ m → wX_clearMarks_23 post (nI n) (nI c) (nI m) fu (nI s) vX IV U CT NB SV ST SD RC PL SI RI LN ND (rl_mix s (rl_r2 st) SE) := by
  have hA' := hA
  obtain ⟨hW, hIV, hCT, hNB, hST, hSD, hRC, hSI, hRI⟩ := hA'
  have hW' := hW
  obtain ⟨⟨⟨n2, n4⟩, ⟨c3, c8⟩, ⟨m4, m16⟩⟩, hS, hM, hB⟩ := hW'
  intro fu
  induction fu with
  | zero => intro s q1 q2; omega
  | succ fu ih =>
    intro s q1 q2
    obtain ⟨t1, t2, t3, t4, t5⟩ := hM.1 s
    by_cases e : m ≤ s
    · have e2 : s = m := by omega
      simp (disch := omega) only [wX_clearMarks_23, e, forall_eq, Nat.le_refl, rl_10, rl_n10, nI_leI, nI_ltI, nI_eq, vp_in_nI, nI_clamp, nI_1, nI_add, rl_lt0, rl_0le, rl_eq0, rl_eq1, rl_eq2, rl_m1, rl_m8, rl_m100, rl_vb0, rl_vb1, true_implies, forall_const, not_true_eq_false, not_false_eq_true, false_implies, and_true, true_and, implies_true, and_self]
      rw [e2]; exact hpost
    · by_cases l : st s = 2
      · have hr : (1 : Int32) = rl_r2 st s := (if_pos l).symm
        have := ih (s + 1) (by omega) (by omega)
        rw [← rl_mix_s hr] at this
        simp (disch := omega) only [wX_clearMarks_23, e, hST, l, forall_eq, Nat.le_refl, rl_10, rl_n10, nI_leI, nI_ltI, nI_eq, vp_in_nI, nI_clamp, nI_1, nI_add, rl_lt0, rl_0le, rl_eq0, rl_eq1, rl_eq2, rl_m1, rl_m8, rl_m100, rl_vb0, rl_vb1, true_implies, forall_const, not_true_eq_false, not_false_eq_true, false_implies, and_true, true_and, implies_true, and_self]
        exact this
      · have hr : (0 : Int32) = rl_r2 st s := (if_neg l).symm
        have := ih (s + 1) (by omega) (by omega)
        rw [← rl_mix_s hr] at this
        simp (disch := omega) only [wX_clearMarks_23, e, hST, l, forall_eq, Nat.le_refl, rl_10, rl_n10, nI_leI, nI_ltI, nI_eq, vp_in_nI, nI_clamp, nI_1, nI_add, rl_lt0, rl_0le, rl_eq0, rl_eq1, rl_eq2, rl_m1, rl_m8, rl_m100, rl_vb0, rl_vb1, true_implies, forall_const, not_true_eq_false, not_false_eq_true, false_implies, and_true, true_and, implies_true, and_self]
        exact this
theorem rx_clear1_l (hA : rl_A n c m iv ct g st sd rc si ri IV CT NB ST SD RC SI RI) {post : St2 → Prop} (hpost : post (nI n, nI c, nI m, vX, IV, U, CT, NB, SV, ST, SD, RC, PL, SI, RI, LN, rl_mix 32 (fun _ => 0) ND, rl_mix m (rl_r2 st) SE)) :
    ∀ (fu i : Nat), 32 < fu + i → i ≤ 32 → wX_clearMarks_2 post (nI n) (nI c) (nI m) fu (nI i) vX IV U CT NB SV ST SD RC PL SI RI LN (rl_mix i (fun _ => 0) ND) SE := by
  intro fu
  induction fu with
  | zero => intro i q1 q2; omega
  | succ fu ih =>
    intro i q1 q2
    by_cases e : 32 ≤ i
    · have e2 : i = 32 := by omega
      subst e2
      simp (disch := omega) only [wX_clearMarks_2, e, rl_32, forall_eq, Nat.le_refl, rl_10, rl_n10, nI_leI, nI_ltI, nI_eq, vp_in_nI, nI_clamp, nI_1, nI_add, rl_lt0, rl_0le, rl_eq0, rl_eq1, rl_eq2, rl_m1, rl_m8, rl_m100, rl_vb0, rl_vb1, true_implies, forall_const, not_true_eq_false, not_false_eq_true, false_implies, and_true, true_and, implies_true, and_self]
      have := rx_clear2_l (ND := rl_mix 32 (fun _ => 0) ND) hA hpost (m + 1) 0 (by omega) (by omega)
      rw [rl_mix_0] at this
      exact ⟨_, this⟩
    · have := ih (i + 1) (by omega) (by omega)
      rw [← rl_mix_s (x := 0) rfl] at this
      simp (disch := omega) only [wX_clearMarks_2, e, rl_32, forall_eq, Nat.le_refl, rl_10, rl_n10, nI_leI, nI_ltI, nI_eq, vp_in_nI, nI_clamp, nI_1, nI_add, rl_lt0, rl_0le, rl_eq0, rl_eq1, rl_eq2, rl_m1, rl_m8, rl_m100, rl_vb0, rl_vb1, true_implies, forall_const, not_true_eq_false, not_false_eq_true, false_implies, and_true, true_and, implies_true, and_self]
      exact this
theorem rx_clear (hA : rl_A n c m iv ct g st sd rc si ri IV CT NB ST SD RC SI RI) {post : St2 → Prop} (hpost : post (nI n, nI c, nI m, vX, IV, U, CT, NB, SV, ST, SD, RC, PL, SI, RI, LN, rl_mix 32 (fun _ => 0) ND, rl_mix m (rl_r2 st) SE)) : wpX_clearMarks post (nI n, nI c, nI m, vX, IV, U, CT, NB, SV, ST, SD, RC, PL, SI, RI, LN, ND, SE) := by
  simp only [wpX_clearMarks]
  have := rx_clear1_l hA hpost 33 0 (by omega) (by omega)
  rw [rl_mix_0] at this
  exact ⟨_, this⟩
theorem rx_markN_l (hA : rl_A n c m iv ct g st sd rc si ri IV CT NB ST SD RC SI RI) {post : St2 → Prop} {κ : Nat → Nat} (hx : ∀ p, p < n → LN p = nI (rl_G ct g iv p (κ p))) (hκ : rl_le n κ ct) {ND0 : Nat → Int32}
    (hpost : ∀ ND', (∀ p, p < n → ∀ k, k < ct p → (¬ ND' (p * 8 + k) = 0 ↔ ¬ ND0 (p * 8 + k) = 0 ∨ κ p = k)) → post (nI n, nI c, nI m, vX, IV, U, CT, NB, SV, ST, SD, RC, PL, SI, RI, LN, ND', SE)) :
    ∀ (fu i : Nat) (ND : Nat → Int32), n < fu + i → i ≤ n → (∀ p, p < n → ∀ k, k < ct p → (¬ ND (p * 8 + k) = 0 ↔ ¬ ND0 (p * 8 + k) = 0 ∨ (p < i ∧ κ p = k))) →
      wX_markNeededByLine_2 post (nI n) (nI c) (nI m) fu (nI i) vX IV U CT NB SV ST SD RC PL SI RI LN ND SE := by
  have hA' := hA
  obtain ⟨hW, hIV, hCT, hNB, hST, hSD, hRC, hSI, hRI⟩ := hA'
  have hW' := hW
  obtain ⟨⟨⟨n2, n4⟩, ⟨c3, c8⟩, ⟨m4, m16⟩⟩, hS, hM, hB⟩ := hW'
  intro fu
  induction fu with
  | zero => intro i ND q1 q2; omega
  | succ fu ih =>
    intro i ND q1 q2 q3
    by_cases e : n ≤ i
    · simp (disch := omega) only [wX_markNeededByLine_2, e, forall_eq, Nat.le_refl, rl_10, rl_n10, nI_leI, nI_ltI, nI_eq, vp_in_nI, nI_clamp, nI_1, nI_add, rl_lt0, rl_0le, rl_eq0, rl_eq1, rl_eq2, rl_m1, rl_m8, rl_m100, rl_vb0, rl_vb1, true_implies, forall_const, not_true_eq_false, not_false_eq_true, false_implies, and_true, true_and, implies_true, and_self]
      refine hpost ND (fun p hp k hk => ?_)
      rw [q3 p hp k hk]
      constructor
      · rintro (h | h)
        · exact Or.inl h
        · exact Or.inr h.2
      · rintro (h | h)
        · exact Or.inl h
        · exact Or.inr ⟨by omega, h⟩
    · have hi : i < n := by omega
      obtain ⟨s1, s2, s3, s4, s5⟩ := hS i hi
      have hki := hκ i hi
      have h100 := rl_G_100 hS (κ i) hi
      simp (disch := omega) only [wX_markNeededByLine_2, e, forall_eq, Nat.le_refl, rl_10, rl_n10, nI_leI, nI_ltI, nI_eq, vp_in_nI, nI_clamp, nI_1, nI_add, rl_lt0, rl_0le, rl_eq0, rl_eq1, rl_eq2, rl_m1, rl_m8, rl_m100, rl_vb0, rl_vb1, true_implies, forall_const, not_true_eq_false, not_false_eq_true, false_implies, and_true, true_and, implies_true, and_self]
      refine rx_cellOf (K := ct i) (gp := g i) (by omega) (by omega) (hCT i) (hNB i hi) (fun k hk ek => ?_) (fun ek => ?_)
      · have hgk := s4 k hk
        rw [hx i hi] at ek
        have ek2 : g i k = rl_G ct g iv i (κ i) := (nI_eq (by omega) (by omega)).mp ek
        have ek3 : k = κ i := rl_G_inj hS hi (by omega) hki (by rw [rl_G_in hk]; exact ek2)
        have hne := rl_ne4 (a := i * 8 + k) (by omega)
        simp (disch := omega) only [hne, forall_eq, Nat.le_refl, rl_10, rl_n10, nI_leI, nI_ltI, nI_eq, vp_in_nI, nI_clamp, nI_1, nI_add, rl_lt0, rl_0le, rl_eq0, rl_eq1, rl_eq2, rl_m1, rl_m8, rl_m100, rl_vb0, rl_vb1, true_implies, forall_const, not_true_eq_false, not_false_eq_true, false_implies, and_true, true_and, implies_true, and_self]
        refine ih (i + 1) _ (by omega) (by omega) (fun p hp j hj => ?_)
        have hcp := (hS p hp).2.1
        by_cases qe : p * 8 + j = i * 8 + k
        · have e1 : p = i := by omega
          have e2 : j = k := by omega
          rw [qe, pk_us, e1, e2]
          exact ⟨fun _ => Or.inr ⟨by omega, ek3.symm⟩, fun _ => by decide⟩
        · rw [pk_un qe, q3 p hp j hj]
          constructor
          · rintro (h | h)
            · exact Or.inl h
            · exact Or.inr ⟨by omega, h.2⟩
          · rintro (h | h)
            · exact Or.inl h
            · refine Or.inr ⟨?_, h.2⟩
              by_cases pe : p = i
              · exfalso; rw [pe] at h; rw [pe] at qe; omega
              · omega
      · have hk2 : ¬ κ i < ct i := by
          intro z
          refine ek (κ i) z ?_
          rw [hx i hi, rl_G_in z]
        try simp (disch := omega) only [forall_eq, Nat.le_refl, rl_10, rl_n10, nI_leI, nI_ltI, nI_eq, vp_in_nI, nI_clamp, nI_1, nI_add, rl_lt0, rl_0le, rl_eq0, rl_eq1, rl_eq2, rl_m1, rl_m8, rl_m100, rl_vb0, rl_vb1, true_implies, forall_const, not_true_eq_false, not_false_eq_true, false_implies, and_true, true_and, implies_true, and_self]
        refine ih (i + 1) _ (by omega) (by omega) (fun p hp j hj => ?_)
        rw [q3 p hp j hj]
        constructor
        · rintro (h | h)
          · exact Or.inl h
          · exact Or.inr ⟨by omega, h.2⟩
        · rintro (h | h)
          · exact Or.inl h
          · refine Or.inr ⟨?_, h.2⟩
            by_cases pe : p = i
            · exfalso; rw [pe] at h hj; omega
            · omega
theorem rx_markN (hA : rl_A n c m iv ct g st sd rc si ri IV CT NB ST SD RC SI RI) {post : St2 → Prop} {κ : Nat → Nat} (hx : ∀ p, p < n → LN p = nI (rl_G ct g iv p (κ p))) (hκ : rl_le n κ ct)
    (hpost : ∀ ND', (∀ p, p < n → ∀ k, k < ct p → (¬ ND' (p * 8 + k) = 0 ↔ ¬ ND (p * 8 + k) = 0 ∨ κ p = k)) → post (nI n, nI c, nI m, vX, IV, U, CT, NB, SV, ST, SD, RC, PL, SI, RI, LN, ND', SE)) : wpX_markNeededByLine post (nI n, nI c, nI m, vX, IV, U, CT, NB, SV, ST, SD, RC, PL, SI, RI, LN, ND, SE) := by
  simp only [wpX_markNeededByLine]
  exact ⟨n + 1, rx_markN_l hA hx hκ hpost (n + 1) 0 ND (by omega) (by omega) (fun p hp k hk => ⟨fun h => Or.inl h, fun h => by rcases h with h | h; exact h; exact absurd h.1 (by omega)⟩)⟩
theorem rx_unm_l (hA : rl_A n c m iv ct g st sd rc si ri IV CT NB ST SD RC SI RI) {post : St2 → Prop} {x : Nat → Nat} (hx : ∀ p, p < n → LN p = nI (x p)) (h100 : ∀ p, p < n → x p ≤ 100) {SE0 : Nat → Int32}
    (hpost : ∀ SE', (∀ s, s < m → (¬ SE' s = 0 ↔ ¬ SE0 s = 0 ∧ ri s < x (rc s))) → post (nI n, nI c, nI m, vX, IV, U, CT, NB, SV, ST, SD, RC, PL, SI, RI, LN, ND, SE')) :
    ∀ (fu i : Nat) (SE : Nat → Int32), m < fu + i → i ≤ m → (∀ s, s < m → (¬ SE s = 0 ↔ ¬ SE0 s = 0 ∧ (s < i → ri s < x (rc s)))) →
      wX_unmarkUnsettledByLine_2 post (nI n) (nI c) (nI m) fu (nI i) vX IV U CT NB SV ST SD RC PL SI RI LN ND SE := by
  have hA' := hA
  obtain ⟨hW, hIV, hCT, hNB, hST, hSD, hRC, hSI, hRI⟩ := hA'
  have hW' := hW
  obtain ⟨⟨⟨n2, n4⟩, ⟨c3, c8⟩, ⟨m4, m16⟩⟩, hS, hM, hB⟩ := hW'
  intro fu
  induction fu with
  | zero => intro i SE q1 q2; omega
  | succ fu ih =>
    intro i SE q1 q2 q3
    by_cases e : m ≤ i
    · simp (disch := omega) only [wX_unmarkUnsettledByLine_2, e, forall_eq, Nat.le_refl, rl_10, rl_n10, nI_leI, nI_ltI, nI_eq, vp_in_nI, nI_clamp, nI_1, nI_add, rl_lt0, rl_0le, rl_eq0, rl_eq1, rl_eq2, rl_m1, rl_m8, rl_m100, rl_vb0, rl_vb1, true_implies, forall_const, not_true_eq_false, not_false_eq_true, false_implies, and_true, true_and, implies_true, and_self]
      refine hpost SE (fun s hs => ?_)
      rw [q3 s hs]
      exact ⟨fun h => ⟨h.1, h.2 (by omega)⟩, fun h => ⟨h.1, fun _ => h.2⟩⟩
    · have hi : i < m := by omega
      have keep : (¬ SE i = 0 → ri i < x (rc i)) → ∀ s, s < m → (¬ SE s = 0 ↔ ¬ SE0 s = 0 ∧ (s < i + 1 → ri s < x (rc s))) := by
        intro hh s hs
        by_cases qe : s = i
        · rw [qe]
          constructor
          · intro h; exact ⟨((q3 i hi).mp h).1, fun _ => hh h⟩
          · intro h; exact (q3 i hi).mpr ⟨h.1, fun z => absurd z (by omega)⟩
        · rw [q3 s hs]
          exact ⟨fun h => ⟨h.1, fun z => h.2 (by omega)⟩, fun h => ⟨h.1, fun z => h.2 (by omega)⟩⟩
      by_cases l : SE i = 0
      · simp (disch := omega) only [wX_unmarkUnsettledByLine_2, e, l, forall_eq, Nat.le_refl, rl_10, rl_n10, nI_leI, nI_ltI, nI_eq, vp_in_nI, nI_clamp, nI_1, nI_add, rl_lt0, rl_0le, rl_eq0, rl_eq1, rl_eq2, rl_m1, rl_m8, rl_m100, rl_vb0, rl_vb1, true_implies, forall_const, not_true_eq_false, not_false_eq_true, false_implies, and_true, true_and, implies_true, and_self]
        exact ih (i + 1) _ (by omega) (by omega) (keep (fun z => absurd l z))
      · simp (disch := omega) only [wX_unmarkUnsettledByLine_2, e, l, forall_eq, Nat.le_refl, rl_10, rl_n10, nI_leI, nI_ltI, nI_eq, vp_in_nI, nI_clamp, nI_1, nI_add, rl_lt0, rl_0le, rl_eq0, rl_eq1, rl_eq2, rl_m1, rl_m8, rl_m100, rl_vb0, rl_vb1, true_implies, forall_const, not_true_eq_false, not_false_eq_true, false_implies, and_true, true_and, implies_true, and_self]
        refine rx_recInc (rl_Q_of hA) hi hx h100 (fun a => ?_) (fun a => ?_)
        · have h10 : ¬ (1 : Int32) = 0 := by decide
          simp (disch := omega) only [h10, forall_eq, Nat.le_refl, rl_10, rl_n10, nI_leI, nI_ltI, nI_eq, vp_in_nI, nI_clamp, nI_1, nI_add, rl_lt0, rl_0le, rl_eq0, rl_eq1, rl_eq2, rl_m1, rl_m8, rl_m100, rl_vb0, rl_vb1, true_implies, forall_const, not_true_eq_false, not_false_eq_true, false_implies, and_true, true_and, implies_true, and_self]
          exact ih (i + 1) _ (by omega) (by omega) (keep (fun _ => a))
        · try simp (disch := omega) only [forall_eq, Nat.le_refl, rl_10, rl_n10, nI_leI, nI_ltI, nI_eq, vp_in_nI, nI_clamp, nI_1, nI_add, rl_lt0, rl_0le, rl_eq0, rl_eq1, rl_eq2, rl_m1, rl_m8, rl_m100, rl_vb0, rl_vb1, true_implies, forall_const, not_true_eq_false, not_false_eq_true, false_implies, and_true, true_and, implies_true, and_self]
          refine ih (i + 1) _ (by omega) (by omega) (fun s hs => ?_)
          by_cases qe : s = i
          · rw [qe, pk_us]
            exact ⟨fun z => absurd rfl z, fun z => absurd (z.2 (by omega)) a⟩
          · rw [pk_un qe, q3 s hs]
            exact ⟨fun h => ⟨h.1, fun z => h.2 (by omega)⟩, fun h => ⟨h.1, fun z => h.2 (by omega)⟩⟩
theorem rx_unm (hA : rl_A n c m iv ct g st sd rc si ri IV CT NB ST SD RC SI RI) {post : St2 → Prop} {x : Nat → Nat} (hx : ∀ p, p < n → LN p = nI (x p)) (h100 : ∀ p, p < n → x p ≤ 100)
    (hpost : ∀ SE', (∀ s, s < m → (¬ SE' s = 0 ↔ ¬ SE s = 0 ∧ ri s < x (rc s))) → post (nI n, nI c, nI m, vX, IV, U, CT, NB, SV, ST, SD, RC, PL, SI, RI, LN, ND, SE')) : wpX_unmarkUnsettledByLine post (nI n, nI c, nI m, vX, IV, U, CT, NB, SV, ST, SD, RC, PL, SI, RI, LN, ND, SE) := by
  simp only [wpX_unmarkUnsettledByLine]
  exact ⟨m + 1, rx_unm_l hA hx h100 hpost (m + 1) 0 SE (by omega) (by omega) (fun s hs => ⟨fun h => ⟨h, fun z => absurd z (by omega)⟩, fun h => h.1⟩)⟩
theorem rl_16 {n : Nat} (h : n ≤ 4) : 2 ^ n ≤ 16 := by
  have : n = 0 ∨ n = 1 ∨ n = 2 ∨ n = 3 ∨ n = 4 := by omega
  rcases this with e | e | e | e | e <;> subst e <;> decide
theorem rx_mns_l (hA : rl_A n c m iv ct g st sd rc si ri IV CT NB ST SD RC SI RI) {post : St2 → Prop} {Ls : Int32 → Nat → Nat} (hL : ∀ T, rl_IsL n (rl_tp ct T) (rl_C m iv ct g st sd rc si ri) (Ls T)) {D : Int32}
    (hpost : ∀ LN' ND' SE', (∀ p, p < n → ∀ k, k < ct p → (¬ ND' (p * 8 + k) = 0 ↔ rl_Nd D Ls (2 ^ n) p k)) →
      (∀ s, s < m → (¬ SE' s = 0 ↔ rl_Se D (fun T p => rl_G ct g iv p (Ls T p)) st rc ri (2 ^ n) s)) → post (nI n, nI c, nI m, vX, IV, U, CT, NB, SV, ST, SD, RC, PL, SI, RI, LN', ND', SE')) :
    ∀ (fu J : Nat) (LN ND SE : Nat → Int32), 2 ^ n < fu + J → J ≤ 2 ^ n → (∀ p, p < n → ∀ k, k < ct p → (¬ ND (p * 8 + k) = 0 ↔ rl_Nd D Ls J p k)) →
      (∀ s, s < m → (¬ SE s = 0 ↔ rl_Se D (fun T p => rl_G ct g iv p (Ls T p)) st rc ri J s)) → wX_markNeededAndSettled_11 post D fu (nI J) (nI n) (nI c) (nI m) vX IV U CT NB SV ST SD RC PL SI RI LN ND SE := by
  have hA' := hA
  obtain ⟨hW, hIV, hCT, hNB, hST, hSD, hRC, hSI, hRI⟩ := hA'
  have hW' := hW
  obtain ⟨⟨⟨n2, n4⟩, ⟨c3, c8⟩, ⟨m4, m16⟩⟩, hS, hM, hB⟩ := hW'
  have h16 := rl_16 n4
  have h1n := rl_1n n2 n4
  intro fu
  induction fu with
  | zero => intro J LN ND SE q1 q2; omega
  | succ fu ih =>
    intro J LN ND SE q1 q2 q3 q4
    by_cases e : 2 ^ n ≤ J
    · have e2 : J = 2 ^ n := by omega
      simp (disch := omega) only [wX_markNeededAndSettled_11, h1n, e, forall_eq, Nat.le_refl, rl_10, rl_n10, nI_leI, nI_ltI, nI_eq, vp_in_nI, nI_clamp, nI_1, nI_add, rl_lt0, rl_0le, rl_eq0, rl_eq1, rl_eq2, rl_m1, rl_m8, rl_m100, rl_vb0, rl_vb1, true_implies, forall_const, not_true_eq_false, not_false_eq_true, false_implies, and_true, true_and, implies_true, and_self]
      rw [e2] at q3 q4
      exact hpost LN ND SE q3 q4
    · by_cases l : (nI J &&& D) = D
      · simp (disch := omega) only [wX_markNeededAndSettled_11, h1n, e, l, forall_eq, Nat.le_refl, rl_10, rl_n10, nI_leI, nI_ltI, nI_eq, vp_in_nI, nI_clamp, nI_1, nI_add, rl_lt0, rl_0le, rl_eq0, rl_eq1, rl_eq2, rl_m1, rl_m8, rl_m100, rl_vb0, rl_vb1, true_implies, forall_const, not_true_eq_false, not_false_eq_true, false_implies, and_true, true_and, implies_true, and_self]
        refine rx_find hA (hL (nI J)) (fun LN1 r1 => ?_)
        try dsimp only
        refine rx_markN hA r1 (fun p hp => Nat.le_trans ((hL (nI J)).1 p hp) (rl_tp_le ct _ p)) (fun ND1 r2 => ?_)
        try dsimp only
        refine rx_unm hA (x := fun p => rl_G ct g iv p (Ls (nI J) p)) r1 (fun p hp => rl_G_100 hS _ hp) (fun SE1 r3 => ?_)
        try dsimp only
        try simp (disch := omega) only [forall_eq, Nat.le_refl, rl_10, rl_n10, nI_leI, nI_ltI, nI_eq, vp_in_nI, nI_clamp, nI_1, nI_add, rl_lt0, rl_0le, rl_eq0, rl_eq1, rl_eq2, rl_m1, rl_m8, rl_m100, rl_vb0, rl_vb1, true_implies, forall_const, not_true_eq_false, not_false_eq_true, false_implies, and_true, true_and, implies_true, and_self]
        refine ih (J + 1) _ _ _ (by omega) (by omega) (fun p hp k hk => ?_) (fun s hs => ?_)
        · rw [r2 p hp k hk, rl_Nd_t l, q3 p hp k hk]
        · rw [r3 s hs, rl_Se_t l, q4 s hs]
      · simp (disch := omega) only [wX_markNeededAndSettled_11, h1n, e, l, forall_eq, Nat.le_refl, rl_10, rl_n10, nI_leI, nI_ltI, nI_eq, vp_in_nI, nI_clamp, nI_1, nI_add, rl_lt0, rl_0le, rl_eq0, rl_eq1, rl_eq2, rl_m1, rl_m8, rl_m100, rl_vb0, rl_vb1, true_implies, forall_const, not_true_eq_false, not_false_eq_true, false_implies, and_true, true_and, implies_true, and_self]
        refine ih (J + 1) _ _ _ (by omega) (by omega) (fun p hp k hk => ?_) (fun s hs => ?_)
        · rw [rl_Nd_f l, q3 p hp k hk]
        · rw [rl_Se_f l, q4 s hs]
theorem rx_mns (hA : rl_A n c m iv ct g st sd rc si ri IV CT NB ST SD RC SI RI) {post : St2 → Prop} {Ls : Int32 → Nat → Nat} (hL : ∀ T, rl_IsL n (rl_tp ct T) (rl_C m iv ct g st sd rc si ri) (Ls T))
    (hpost : ∀ LN' ND' SE', (∀ p, p < n → ∀ k, k < ct p → (¬ ND' (p * 8 + k) = 0 ↔ rl_Nd (rl_or (rl_dn U) n) Ls (2 ^ n) p k)) →
      (∀ s, s < m → (¬ SE' s = 0 ↔ rl_Se (rl_or (rl_dn U) n) (fun T p => rl_G ct g iv p (Ls T p)) st rc ri (2 ^ n) s)) → post (nI n, nI c, nI m, vX, IV, U, CT, NB, SV, ST, SD, RC, PL, SI, RI, LN', ND', SE')) :
    wpX_markNeededAndSettled post (nI n, nI c, nI m, vX, IV, U, CT, NB, SV, ST, SD, RC, PL, SI, RI, LN, ND, SE) := by
  have hA' := hA
  obtain ⟨hW, hIV, hCT, hNB, hST, hSD, hRC, hSI, hRI⟩ := hA'
  have hW' := hW
  obtain ⟨⟨⟨n2, n4⟩, ⟨c3, c8⟩, ⟨m4, m16⟩⟩, hS, hM, hB⟩ := hW'
  simp only [wpX_markNeededAndSettled]
  refine rx_clear hA ?_
  try dsimp only
  refine rx_down n4 ?_
  try dsimp only
  refine ⟨2 ^ n + 1, rx_mns_l hA hL hpost (2 ^ n + 1) 0 LN _ _ (Nat.lt_succ_self _) (Nat.zero_le _) (fun p hp k hk => ?_) (fun s hs => ?_)⟩
  · have := (hS p hp).2.1
    rw [rl_mix_lt (by omega)]
    exact ⟨fun z => absurd rfl z, fun z => absurd z rl_Nd_0⟩
  · rw [rl_mix_lt hs, rl_Se_0]
    unfold rl_r2
    by_cases l : st s = 2
    · rw [if_pos l]; exact ⟨fun _ => l, fun _ => by decide⟩
    · rw [if_neg l]; exact ⟨fun z => absurd rfl z, fun z => absurd z l⟩
end
