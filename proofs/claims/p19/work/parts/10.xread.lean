section
variable {n c m : Nat} {iv ct st sd rc si ri : Nat → Nat} {g : Nat → Nat → Nat}
variable {vX IV U CT NB SV ST SD RC PL SI RI LN ND SE : Nat → Int32}
theorem rx_bad {post : Int32 → Prop} {p : Nat} (hp : p < n) (n4 : n ≤ 4) (k : post 0) : wpX_isBadProcess post (nI n, nI c, nI m, vX, IV, U, CT, NB, SV, ST, SD, RC, PL, SI, RI, LN, ND, SE) (nI p) := by
  simp (disch := omega) only [wpX_isBadProcess, hp, forall_eq, Nat.le_refl, rl_10, rl_n10, nI_leI, nI_ltI, nI_eq, vp_in_nI, nI_clamp, nI_1, nI_add, rl_lt0, rl_0le, rl_eq0, rl_eq1, rl_eq2, rl_m1, rl_m8, rl_m100, rl_vb0, rl_vb1, true_implies, forall_const, not_true_eq_false, not_false_eq_true, false_implies, and_true, true_and, implies_true, and_self]
  exact k
theorem rx_badN {post : Int32 → Prop} {x : Int32} (h : x < 0) (k : post 1) : wpX_isBadProcess post (nI n, nI c, nI m, vX, IV, U, CT, NB, SV, ST, SD, RC, PL, SI, RI, LN, ND, SE) x := by
  simp only [wpX_isBadProcess, h, forall_eq, Nat.le_refl, rl_10, rl_n10, nI_leI, nI_ltI, nI_eq, vp_in_nI, nI_clamp, nI_1, nI_add, rl_lt0, rl_0le, rl_eq0, rl_eq1, rl_eq2, rl_m1, rl_m8, rl_m100, rl_vb0, rl_vb1, true_implies, forall_const, not_true_eq_false, not_false_eq_true, false_implies, and_true, true_and, implies_true, and_self]
  exact k
theorem rx_badG {post : Int32 → Prop} {x : Int32} (h : nI n ≤ x) (k : post 1) : wpX_isBadProcess post (nI n, nI c, nI m, vX, IV, U, CT, NB, SV, ST, SD, RC, PL, SI, RI, LN, ND, SE) x := by
  have h' : ¬ x < nI n := Int32.not_lt.mpr h
  simp only [wpX_isBadProcess, h', forall_eq, Nat.le_refl, rl_10, rl_n10, nI_leI, nI_ltI, nI_eq, vp_in_nI, nI_clamp, nI_1, nI_add, rl_lt0, rl_0le, rl_eq0, rl_eq1, rl_eq2, rl_m1, rl_m8, rl_m100, rl_vb0, rl_vb1, true_implies, forall_const, not_true_eq_false, not_false_eq_true, false_implies, and_true, true_and, implies_true, and_self]
  exact ⟨fun _ => k, fun _ => k⟩
theorem rx_badS {post : Int32 → Prop} {p : Nat} (hp : p < m) (n4 : m ≤ 16) (k : post 0) : wpX_isBadSlot post (nI n, nI c, nI m, vX, IV, U, CT, NB, SV, ST, SD, RC, PL, SI, RI, LN, ND, SE) (nI p) := by
  simp (disch := omega) only [wpX_isBadSlot, hp, forall_eq, Nat.le_refl, rl_10, rl_n10, nI_leI, nI_ltI, nI_eq, vp_in_nI, nI_clamp, nI_1, nI_add, rl_lt0, rl_0le, rl_eq0, rl_eq1, rl_eq2, rl_m1, rl_m8, rl_m100, rl_vb0, rl_vb1, true_implies, forall_const, not_true_eq_false, not_false_eq_true, false_implies, and_true, true_and, implies_true, and_self]
  exact k
theorem rx_badSN {post : Int32 → Prop} {x : Int32} (h : x < 0) (k : post 1) : wpX_isBadSlot post (nI n, nI c, nI m, vX, IV, U, CT, NB, SV, ST, SD, RC, PL, SI, RI, LN, ND, SE) x := by
  simp only [wpX_isBadSlot, h, forall_eq, Nat.le_refl, rl_10, rl_n10, nI_leI, nI_ltI, nI_eq, vp_in_nI, nI_clamp, nI_1, nI_add, rl_lt0, rl_0le, rl_eq0, rl_eq1, rl_eq2, rl_m1, rl_m8, rl_m100, rl_vb0, rl_vb1, true_implies, forall_const, not_true_eq_false, not_false_eq_true, false_implies, and_true, true_and, implies_true, and_self]
  exact k
theorem rx_badSG {post : Int32 → Prop} {x : Int32} (h : nI m ≤ x) (k : post 1) : wpX_isBadSlot post (nI n, nI c, nI m, vX, IV, U, CT, NB, SV, ST, SD, RC, PL, SI, RI, LN, ND, SE) x := by
  have h' : ¬ x < nI m := Int32.not_lt.mpr h
  simp only [wpX_isBadSlot, h', forall_eq, Nat.le_refl, rl_10, rl_n10, nI_leI, nI_ltI, nI_eq, vp_in_nI, nI_clamp, nI_1, nI_add, rl_lt0, rl_0le, rl_eq0, rl_eq1, rl_eq2, rl_m1, rl_m8, rl_m100, rl_vb0, rl_vb1, true_implies, forall_const, not_true_eq_false, not_false_eq_true, false_implies, and_true, true_and, implies_true, and_self]
  exact ⟨fun _ => k, fun _ => k⟩
theorem rx_cellOf_l {post : Int32 → Prop} {p K : Nat} {gp : Nat → Nat} (hp : p < 4) (hK : K ≤ 8) (hct : CT p = nI K) (hnb : ∀ k, k < K → NB (p * 8 + k) = nI (gp k)) {x : Int32}
    (h1 : ∀ k, k < K → nI (gp k) = x → post (nI (p * 8 + k))) (h2 : (∀ k, k < K → ¬ nI (gp k) = x) → post (-4)) :
    ∀ (fu k : Nat), K < fu + k → k ≤ K → (∀ j, j < k → ¬ nI (gp j) = x) → wX_cellOf_8 post (nI p) x (nI (p * 8)) (nI n) (nI c) (nI m) vX IV U CT NB SV ST SD RC PL SI RI LN ND SE fu (nI k) := by
  intro fu
  induction fu with
  | zero => intro k q1 q2; omega
  | succ fu ih =>
    intro k q1 q2 q3
    by_cases e : K ≤ k
    · simp (disch := omega) only [wX_cellOf_8, hct, e, forall_eq, Nat.le_refl, rl_10, rl_n10, nI_leI, nI_ltI, nI_eq, vp_in_nI, nI_clamp, nI_1, nI_add, rl_lt0, rl_0le, rl_eq0, rl_eq1, rl_eq2, rl_m1, rl_m8, rl_m100, rl_vb0, rl_vb1, true_implies, forall_const, not_true_eq_false, not_false_eq_true, false_implies, and_true, true_and, implies_true, and_self]
      exact h2 (fun j hj => q3 j (by omega))
    · have hkc : k < K := by omega
      have hn := hnb k hkc
      by_cases l : nI (gp k) = x
      · simp (disch := omega) only [wX_cellOf_8, hct, e, hn, l, forall_eq, Nat.le_refl, rl_10, rl_n10, nI_leI, nI_ltI, nI_eq, vp_in_nI, nI_clamp, nI_1, nI_add, rl_lt0, rl_0le, rl_eq0, rl_eq1, rl_eq2, rl_m1, rl_m8, rl_m100, rl_vb0, rl_vb1, true_implies, forall_const, not_true_eq_false, not_false_eq_true, false_implies, and_true, true_and, implies_true, and_self]
        exact h1 k hkc l
      · simp (disch := omega) only [wX_cellOf_8, hct, e, hn, l, forall_eq, Nat.le_refl, rl_10, rl_n10, nI_leI, nI_ltI, nI_eq, vp_in_nI, nI_clamp, nI_1, nI_add, rl_lt0, rl_0le, rl_eq0, rl_eq1, rl_eq2, rl_m1, rl_m8, rl_m100, rl_vb0, rl_vb1, true_implies, forall_const, not_true_eq_false, not_false_eq_true, false_implies, and_true, true_and, implies_true, and_self]
        refine ih (k + 1) (by omega) (by omega) (fun j hj => ?_)
        by_cases q : j = k
        · rw [q]; exact l
        · exact q3 j (by omega)
theorem rx_cellOf {post : Int32 → Prop} {p K : Nat} {gp : Nat → Nat} (hp : p < 4) (hK : K ≤ 8) (hct : CT p = nI K) (hnb : ∀ k, k < K → NB (p * 8 + k) = nI (gp k)) {x : Int32}
    (h1 : ∀ k, k < K → nI (gp k) = x → post (nI (p * 8 + k))) (h2 : (∀ k, k < K → ¬ nI (gp k) = x) → post (-4)) : wpX_cellOf post (nI n, nI c, nI m, vX, IV, U, CT, NB, SV, ST, SD, RC, PL, SI, RI, LN, ND, SE) (nI p) x := by
  simp (disch := omega) only [wpX_cellOf, wpX_firstCell, forall_eq, Nat.le_refl, rl_10, rl_n10, nI_leI, nI_ltI, nI_eq, vp_in_nI, nI_clamp, nI_1, nI_add, rl_lt0, rl_0le, rl_eq0, rl_eq1, rl_eq2, rl_m1, rl_m8, rl_m100, rl_vb0, rl_vb1, true_implies, forall_const, not_true_eq_false, not_false_eq_true, false_implies, and_true, true_and, implies_true, and_self]
  exact ⟨K + 1, rx_cellOf_l hp hK hct hnb h1 h2 (K + 1) 0 (by omega) (by omega) (fun j hj => absurd hj (by omega))⟩
theorem rx_newest_l (hA : rl_A n c m iv ct g st sd rc si ri IV CT NB ST SD RC SI RI) {post : Int32 → Prop} {p b k0 : Nat} (hp : p < n) (hb : b < 2 ^ 31) (hk : k0 < ct p) (hle : g p k0 ≤ b)
    (hmax : ∀ j, j < ct p → g p j ≤ b → j ≤ k0) (hpost : post (nI (g p k0))) :
    ∀ (fu k : Nat) (x4 : Int32), ct p < fu + k → k ≤ ct p → (k0 < k → x4 = nI (g p k0)) → wX_newestAtMost_12 post (nI p) (nI b) (nI (p * 8)) (nI n) (nI c) (nI m) vX IV U CT NB SV ST SD RC PL SI RI LN ND SE fu x4 (nI k) := by
  have hA' := hA
  obtain ⟨hW, hIV, hCT, hNB, hST, hSD, hRC, hSI, hRI⟩ := hA'
  have hW' := hW
  obtain ⟨⟨⟨n2, n4⟩, ⟨c3, c8⟩, ⟨m4, m16⟩⟩, hS, hM, hB⟩ := hW'
  obtain ⟨s1, s2, s3, s4, s5⟩ := hS p hp
  intro fu
  induction fu with
  | zero => intro k x4 q1 q2; omega
  | succ fu ih =>
    intro k x4 q1 q2 q3
    by_cases e : ct p ≤ k
    · simp (disch := omega) only [wX_newestAtMost_12, hCT, e, forall_eq, Nat.le_refl, rl_10, rl_n10, nI_leI, nI_ltI, nI_eq, vp_in_nI, nI_clamp, nI_1, nI_add, rl_lt0, rl_0le, rl_eq0, rl_eq1, rl_eq2, rl_m1, rl_m8, rl_m100, rl_vb0, rl_vb1, true_implies, forall_const, not_true_eq_false, not_false_eq_true, false_implies, and_true, true_and, implies_true, and_self]
      rw [q3 (by omega)]
      exact hpost
    · have hkc : k < ct p := by omega
      have hnb := hNB p hp k hkc
      have hg := s4 k hkc
      by_cases l : g p k ≤ b
      · have l2 : ¬ b < g p k := by omega
        simp (disch := omega) only [wX_newestAtMost_12, hCT, e, hnb, l2, forall_eq, Nat.le_refl, rl_10, rl_n10, nI_leI, nI_ltI, nI_eq, vp_in_nI, nI_clamp, nI_1, nI_add, rl_lt0, rl_0le, rl_eq0, rl_eq1, rl_eq2, rl_m1, rl_m8, rl_m100, rl_vb0, rl_vb1, true_implies, forall_const, not_true_eq_false, not_false_eq_true, false_implies, and_true, true_and, implies_true, and_self]
        refine ih (k + 1) _ (by omega) (by omega) (fun z => ?_)
        have := hmax k hkc l
        have e3 : k = k0 := by omega
        rw [e3]
      · have l2 : b < g p k := by omega
        simp (disch := omega) only [wX_newestAtMost_12, hCT, e, hnb, l2, forall_eq, Nat.le_refl, rl_10, rl_n10, nI_leI, nI_ltI, nI_eq, vp_in_nI, nI_clamp, nI_1, nI_add, rl_lt0, rl_0le, rl_eq0, rl_eq1, rl_eq2, rl_m1, rl_m8, rl_m100, rl_vb0, rl_vb1, true_implies, forall_const, not_true_eq_false, not_false_eq_true, false_implies, and_true, true_and, implies_true, and_self]
        refine ih (k + 1) _ (by omega) (by omega) (fun z => ?_)
        by_cases q : k0 = k
        · rw [q] at hle; exact absurd hle l
        · exact q3 (by omega)
theorem rx_newest (hA : rl_A n c m iv ct g st sd rc si ri IV CT NB ST SD RC SI RI) {post : Int32 → Prop} {p b k0 : Nat} (hp : p < n) (hb : b < 2 ^ 31) (hk : k0 < ct p) (hle : g p k0 ≤ b)
    (hmax : ∀ j, j < ct p → g p j ≤ b → j ≤ k0) (hpost : post (nI (g p k0))) : wpX_newestAtMost post (nI n, nI c, nI m, vX, IV, U, CT, NB, SV, ST, SD, RC, PL, SI, RI, LN, ND, SE) (nI p) (nI b) := by
  have n4 := hA.1.1.1.2
  simp (disch := omega) only [wpX_newestAtMost, wpX_firstCell, forall_eq, Nat.le_refl, rl_10, rl_n10, nI_leI, nI_ltI, nI_eq, vp_in_nI, nI_clamp, nI_1, nI_add, rl_lt0, rl_0le, rl_eq0, rl_eq1, rl_eq2, rl_m1, rl_m8, rl_m100, rl_vb0, rl_vb1, true_implies, forall_const, not_true_eq_false, not_false_eq_true, false_implies, and_true, true_and, implies_true, and_self]
  exact ⟨ct p + 1, rx_newest_l hA hp hb hk hle hmax hpost (ct p + 1) 0 _ (by omega) (by omega) (fun z => by omega)⟩
/-- the processes that are down -/
def rl_dn (U : Nat → Int32) : Nat → Bool := fun p => decide (U p = 0)
theorem rx_down_l {post : Int32 → Prop} (n4 : n ≤ 4) (hpost : post (rl_or (rl_dn U) n)) :
    ∀ (fu p : Nat), n < fu + p → p ≤ n → wX_downSet_4 post (nI n) (nI c) (nI m) vX IV U CT NB SV ST SD RC PL SI RI LN ND SE fu (rl_or (rl_dn U) p) (nI p) := by
  intro fu
  induction fu with
  | zero => intro p q1 q2; omega
  | succ fu ih =>
    intro p q1 q2
    by_cases e : n ≤ p
    · have e2 : p = n := by omega
      simp (disch := omega) only [wX_downSet_4, e, forall_eq, Nat.le_refl, rl_10, rl_n10, nI_leI, nI_ltI, nI_eq, vp_in_nI, nI_clamp, nI_1, nI_add, rl_lt0, rl_0le, rl_eq0, rl_eq1, rl_eq2, rl_m1, rl_m8, rl_m100, rl_vb0, rl_vb1, true_implies, forall_const, not_true_eq_false, not_false_eq_true, false_implies, and_true, true_and, implies_true, and_self]
      rw [e2]; exact hpost
    · have h4 : p < 4 := by omega
      by_cases l : U p = 0
      · have hd : rl_dn U p = true := decide_eq_true l
        simp (disch := omega) only [wX_downSet_4, e, l, forall_eq, Nat.le_refl, rl_10, rl_n10, nI_leI, nI_ltI, nI_eq, vp_in_nI, nI_clamp, nI_1, nI_add, rl_lt0, rl_0le, rl_eq0, rl_eq1, rl_eq2, rl_m1, rl_m8, rl_m100, rl_vb0, rl_vb1, true_implies, forall_const, not_true_eq_false, not_false_eq_true, false_implies, and_true, true_and, implies_true, and_self]
        have := ih (p + 1) (by omega) (by omega)
        rw [rl_or_t hd] at this
        exact this
      · have hd : ¬ rl_dn U p = true := fun z => l (of_decide_eq_true z)
        simp (disch := omega) only [wX_downSet_4, e, l, forall_eq, Nat.le_refl, rl_10, rl_n10, nI_leI, nI_ltI, nI_eq, vp_in_nI, nI_clamp, nI_1, nI_add, rl_lt0, rl_0le, rl_eq0, rl_eq1, rl_eq2, rl_m1, rl_m8, rl_m100, rl_vb0, rl_vb1, true_implies, forall_const, not_true_eq_false, not_false_eq_true, false_implies, and_true, true_and, implies_true, and_self]
        have := ih (p + 1) (by omega) (by omega)
        rw [rl_or_f hd] at this
        exact this
theorem rx_down {post : Int32 → Prop} (n4 : n ≤ 4) (hpost : post (rl_or (rl_dn U) n)) : wpX_downSet post (nI n, nI c, nI m, vX, IV, U, CT, NB, SV, ST, SD, RC, PL, SI, RI, LN, ND, SE) := by
  simp only [wpX_downSet]
  exact ⟨n + 1, rx_down_l n4 hpost (n + 1) 0 (by omega) (by omega)⟩
theorem rx_recInc (hQ : rl_Q n m sd rc si ri SD RC SI RI) {post : Int32 → Prop} {s : Nat} {x : Nat → Nat} (hs : s < m) (hx : ∀ p, p < n → LN p = nI (x p)) (h100 : ∀ p, p < n → x p ≤ 100)
    (h1 : ri s < x (rc s) → post 1) (h0 : ¬ ri s < x (rc s) → post 0) : wpX_isReceiptIncluded post (nI n, nI c, nI m, vX, IV, U, CT, NB, SV, ST, SD, RC, PL, SI, RI, LN, ND, SE) (nI s) := by
  obtain ⟨n4, m16, hM1, hSD, hRC, hSI, hRI⟩ := hQ
  obtain ⟨t2, t3, t4, t5⟩ := hM1 s
  have hl := hx _ t3
  have h3 := h100 _ t3
  by_cases e : x (rc s) ≤ ri s
  · simp (disch := omega) only [wpX_isReceiptIncluded, hRC, hRI, hl, e, forall_eq, Nat.le_refl, rl_10, rl_n10, nI_leI, nI_ltI, nI_eq, vp_in_nI, nI_clamp, nI_1, nI_add, rl_lt0, rl_0le, rl_eq0, rl_eq1, rl_eq2, rl_m1, rl_m8, rl_m100, rl_vb0, rl_vb1, true_implies, forall_const, not_true_eq_false, not_false_eq_true, false_implies, and_true, true_and, implies_true, and_self]
    exact h0 (by omega)
  · simp (disch := omega) only [wpX_isReceiptIncluded, hRC, hRI, hl, e, forall_eq, Nat.le_refl, rl_10, rl_n10, nI_leI, nI_ltI, nI_eq, vp_in_nI, nI_clamp, nI_1, nI_add, rl_lt0, rl_0le, rl_eq0, rl_eq1, rl_eq2, rl_m1, rl_m8, rl_m100, rl_vb0, rl_vb1, true_implies, forall_const, not_true_eq_false, not_false_eq_true, false_implies, and_true, true_and, implies_true, and_self]
    exact h1 (by omega)
theorem rx_sendInc (hQ : rl_Q n m sd rc si ri SD RC SI RI) {post : Int32 → Prop} {s : Nat} {x : Nat → Nat} (hs : s < m) (hx : ∀ p, p < n → LN p = nI (x p)) (h100 : ∀ p, p < n → x p ≤ 100)
    (h1 : si s < x (sd s) → post 1) (h0 : ¬ si s < x (sd s) → post 0) : wpX_isSendingIncluded post (nI n, nI c, nI m, vX, IV, U, CT, NB, SV, ST, SD, RC, PL, SI, RI, LN, ND, SE) (nI s) := by
  obtain ⟨n4, m16, hM1, hSD, hRC, hSI, hRI⟩ := hQ
  obtain ⟨t2, t3, t4, t5⟩ := hM1 s
  have hl := hx _ t2
  have h3 := h100 _ t2
  by_cases e : x (sd s) ≤ si s
  · simp (disch := omega) only [wpX_isSendingIncluded, hSD, hSI, hl, e, forall_eq, Nat.le_refl, rl_10, rl_n10, nI_leI, nI_ltI, nI_eq, vp_in_nI, nI_clamp, nI_1, nI_add, rl_lt0, rl_0le, rl_eq0, rl_eq1, rl_eq2, rl_m1, rl_m8, rl_m100, rl_vb0, rl_vb1, true_implies, forall_const, not_true_eq_false, not_false_eq_true, false_implies, and_true, true_and, implies_true, and_self]
    exact h0 (by omega)
  · simp (disch := omega) only [wpX_isSendingIncluded, hSD, hSI, hl, e, forall_eq, Nat.le_refl, rl_10, rl_n10, nI_leI, nI_ltI, nI_eq, vp_in_nI, nI_clamp, nI_1, nI_add, rl_lt0, rl_0le, rl_eq0, rl_eq1, rl_eq2, rl_m1, rl_m8, rl_m100, rl_vb0, rl_vb1, true_implies, forall_const, not_true_eq_false, not_false_eq_true, false_implies, and_true, true_and, implies_true, and_self]
    exact h1 (by omega)
theorem rx_orphan (hA : rl_A n c m iv ct g st sd rc si ri IV CT NB ST SD RC SI RI) {post : Int32 → Prop} {s : Nat} {x : Nat → Nat} (hs : s < m) (hx : ∀ p, p < n → LN p = nI (x p)) (h100 : ∀ p, p < n → x p ≤ 100)
    (h1 : st s = 2 → ri s < x (rc s) → ¬ si s < x (sd s) → post 1) (h0 : (st s = 2 → ri s < x (rc s) → si s < x (sd s)) → post 0) : wpX_isOrphan post (nI n, nI c, nI m, vX, IV, U, CT, NB, SV, ST, SD, RC, PL, SI, RI, LN, ND, SE) (nI s) := by
  have hA' := hA
  obtain ⟨hW, hIV, hCT, hNB, hST, hSD, hRC, hSI, hRI⟩ := hA'
  have hW' := hW
  obtain ⟨⟨⟨n2, n4⟩, ⟨c3, c8⟩, ⟨m4, m16⟩⟩, hS, hM, hB⟩ := hW'
  obtain ⟨t1, t2, t3, t4, t5⟩ := hM.1 s
  by_cases e : st s = 2
  · simp (disch := omega) only [wpX_isOrphan, hST, e, forall_eq, Nat.le_refl, rl_10, rl_n10, nI_leI, nI_ltI, nI_eq, vp_in_nI, nI_clamp, nI_1, nI_add, rl_lt0, rl_0le, rl_eq0, rl_eq1, rl_eq2, rl_m1, rl_m8, rl_m100, rl_vb0, rl_vb1, true_implies, forall_const, not_true_eq_false, not_false_eq_true, false_implies, and_true, true_and, implies_true, and_self]
    refine rx_recInc (rl_Q_of hA) hs hx h100 (fun a => ?_) (fun a => ?_)
    · try dsimp only
      refine br_f (by decide) ?_
      refine rx_sendInc (rl_Q_of hA) hs hx h100 (fun b => ?_) (fun b => ?_)
      · try dsimp only
        exact br_f (by decide) (h0 (fun _ _ => b))
      · try dsimp only
        exact br_t rfl (h1 e a b)
    · try dsimp only
      exact br_t rfl (h0 (fun _ z => absurd z a))
  · simp (disch := omega) only [wpX_isOrphan, hST, e, forall_eq, Nat.le_refl, rl_10, rl_n10, nI_leI, nI_ltI, nI_eq, vp_in_nI, nI_clamp, nI_1, nI_add, rl_lt0, rl_0le, rl_eq0, rl_eq1, rl_eq2, rl_m1, rl_m8, rl_m100, rl_vb0, rl_vb1, true_implies, forall_const, not_true_eq_false, not_false_eq_true, false_implies, and_true, true_and, implies_true, and_self]
    exact h0 (fun z => absurd z e)
theorem rx_isNow {post : Int32 → Prop} {p v y : Nat} (hp : p < 4) (hv : v < 2 ^ 31) (hy : y < 2 ^ 31) (hiv : IV p = nI v) (hl : LN p = nI y) (h1 : v < y → post 1) (h0 : ¬ v < y → post 0) :
    wpX_isNow post (nI n, nI c, nI m, vX, IV, U, CT, NB, SV, ST, SD, RC, PL, SI, RI, LN, ND, SE) (nI p) := by
  by_cases e : v < y
  · have e2 : ¬ y ≤ v := by omega
    simp (disch := omega) only [wpX_isNow, hiv, hl, e, e2, forall_eq, Nat.le_refl, rl_10, rl_n10, nI_leI, nI_ltI, nI_eq, vp_in_nI, nI_clamp, nI_1, nI_add, rl_lt0, rl_0le, rl_eq0, rl_eq1, rl_eq2, rl_m1, rl_m8, rl_m100, rl_vb0, rl_vb1, true_implies, forall_const, not_true_eq_false, not_false_eq_true, false_implies, and_true, true_and, implies_true, and_self]
    exact h1 e
  · have e2 : y ≤ v := by omega
    simp (disch := omega) only [wpX_isNow, hiv, hl, e, e2, forall_eq, Nat.le_refl, rl_10, rl_n10, nI_leI, nI_ltI, nI_eq, vp_in_nI, nI_clamp, nI_1, nI_add, rl_lt0, rl_0le, rl_eq0, rl_eq1, rl_eq2, rl_m1, rl_m8, rl_m100, rl_vb0, rl_vb1, true_implies, forall_const, not_true_eq_false, not_false_eq_true, false_implies, and_true, true_and, implies_true, and_self]
    exact h0 e
end
