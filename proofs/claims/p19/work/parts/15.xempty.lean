section
variable {n c m : Nat} {iv ct st sd rc si ri : Nat → Nat} {g : Nat → Nat → Nat}
variable {vX IV U CT NB SV ST SD RC PL SI RI LN ND SE : Nat → Int32}
theorem rx_empty_l {post : Int32 → Prop} (m16 : m ≤ 16) (hST : ∀ s, ST s = nI (st s)) (h2 : ∀ s, st s ≤ 2) (h1 : ∀ s, s < m → st s = 0 → (∀ j, j < s → ¬ st j = 0) → post (nI s))
    (h0 : (∀ s, s < m → ¬ st s = 0) → post (-4)) : ∀ (fu s : Nat), m < fu + s → s ≤ m → (∀ j, j < s → ¬ st j = 0) → wX_firstEmptySlot_2 post (nI n) (nI c) (nI m) vX IV U CT NB SV ST SD RC PL SI RI LN ND SE fu (nI s) := by
  intro fu
  induction fu with
  | zero => intro s q1 q2; omega
  | succ fu ih =>
    intro s q1 q2 q3
    have h2s := h2 s
    by_cases e : m ≤ s
    · simp (disch := omega) only [wX_firstEmptySlot_2, e, forall_eq, Nat.le_refl, rl_10, rl_n10, nI_leI, nI_ltI, nI_eq, vp_in_nI, nI_clamp, nI_1, nI_add, rl_lt0, rl_0le, rl_eq0, rl_eq1, rl_eq2, rl_m1, rl_m8, rl_m100, rl_vb0, rl_vb1, true_implies, forall_const, not_true_eq_false, not_false_eq_true, false_implies, and_true, true_and, implies_true, and_self]
      exact h0 (fun j hj => q3 j (by omega))
    · by_cases a : st s = 0
      · simp (disch := omega) only [wX_firstEmptySlot_2, e, hST, a, forall_eq, Nat.le_refl, rl_10, rl_n10, nI_leI, nI_ltI, nI_eq, vp_in_nI, nI_clamp, nI_1, nI_add, rl_lt0, rl_0le, rl_eq0, rl_eq1, rl_eq2, rl_m1, rl_m8, rl_m100, rl_vb0, rl_vb1, true_implies, forall_const, not_true_eq_false, not_false_eq_true, false_implies, and_true, true_and, implies_true, and_self]
        exact h1 s (by omega) a q3
      · simp (disch := omega) only [wX_firstEmptySlot_2, e, hST, a, forall_eq, Nat.le_refl, rl_10, rl_n10, nI_leI, nI_ltI, nI_eq, vp_in_nI, nI_clamp, nI_1, nI_add, rl_lt0, rl_0le, rl_eq0, rl_eq1, rl_eq2, rl_m1, rl_m8, rl_m100, rl_vb0, rl_vb1, true_implies, forall_const, not_true_eq_false, not_false_eq_true, false_implies, and_true, true_and, implies_true, and_self]
        refine ih (s + 1) (by omega) (by omega) (fun j hj => ?_)
        by_cases q : j = s
        · rw [q]; exact a
        · exact q3 j (by omega)
theorem rx_empty {post : Int32 → Prop} (m16 : m ≤ 16) (hST : ∀ s, ST s = nI (st s)) (h2 : ∀ s, st s ≤ 2) (h1 : ∀ s, s < m → st s = 0 → (∀ j, j < s → ¬ st j = 0) → post (nI s))
    (h0 : (∀ s, s < m → ¬ st s = 0) → post (-4)) : wpX_firstEmptySlot post (nI n, nI c, nI m, vX, IV, U, CT, NB, SV, ST, SD, RC, PL, SI, RI, LN, ND, SE) := by
  simp only [wpX_firstEmptySlot]
  exact ⟨m + 1, rx_empty_l m16 hST h2 h1 h0 (m + 1) 0 (by omega) (by omega) (fun j hj => absurd hj (by omega))⟩
end
