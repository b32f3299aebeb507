/-- the state of a slot behind a recovery to x -/
def rl_rb (st sd rc si ri x : Nat → Nat) (s : Nat) : Nat :=
  if st s = 0 then 0 else if si s < x (sd s) then (if st s = 2 ∧ ¬ ri s < x (rc s) then 1 else st s) else 0
/-- the processes whose component is stored -/
def rl_rl (ct L : Nat → Nat) : Nat → Bool := fun p => decide (L p < ct p)
def rl_nf (f : Nat → Bool) (a b : Nat → Int32) : Nat → Int32 := fun p => if f p = true then a p else b p
section
variable {n c m : Nat} {iv ct st sd rc si ri : Nat → Nat} {g : Nat → Nat → Nat}
variable {vX IV U CT NB SV ST SD RC PL SI RI LN ND SE : Nat → Int32}
theorem rx_rbS (hQ : rl_Q n m sd rc si ri SD RC SI RI) {post : St2 → Prop} {s : Nat} {x : Nat → Nat} (hs : s < m) (hx : ∀ p, p < n → LN p = nI (x p)) (h100 : ∀ p, p < n → x p ≤ 100)
    (hst : ST s = nI (st s)) (h2 : st s ≤ 2) (p1 : post (nI n, nI c, nI m, vX, IV, U, CT, NB, SV, upd ST s (nI (rl_rb st sd rc si ri x s)), SD, RC, PL, SI, RI, LN, ND, SE)) (p2 : rl_rb st sd rc si ri x s = st s → post (nI n, nI c, nI m, vX, IV, U, CT, NB, SV, ST, SD, RC, PL, SI, RI, LN, ND, SE)) : wpX_rollBackSlot post (nI n, nI c, nI m, vX, IV, U, CT, NB, SV, ST, SD, RC, PL, SI, RI, LN, ND, SE) (nI s) := by
  have m16 := hQ.2.1
  have h10 : ¬ (1 : Int32) = 0 := by decide
  by_cases e : st s = 0
  · simp (disch := omega) only [wpX_rollBackSlot, hst, e, forall_eq, Nat.le_refl, rl_10, rl_n10, nI_leI, nI_ltI, nI_eq, vp_in_nI, nI_clamp, nI_1, nI_add, rl_lt0, rl_0le, rl_eq0, rl_eq1, rl_eq2, rl_m1, rl_m8, rl_m100, rl_vb0, rl_vb1, true_implies, forall_const, not_true_eq_false, not_false_eq_true, false_implies, and_true, true_and, implies_true, and_self]
    exact p2 (by unfold rl_rb; rw [if_pos e, e])
  · simp (disch := omega) only [wpX_rollBackSlot, hst, e, forall_eq, Nat.le_refl, rl_10, rl_n10, nI_leI, nI_ltI, nI_eq, vp_in_nI, nI_clamp, nI_1, nI_add, rl_lt0, rl_0le, rl_eq0, rl_eq1, rl_eq2, rl_m1, rl_m8, rl_m100, rl_vb0, rl_vb1, true_implies, forall_const, not_true_eq_false, not_false_eq_true, false_implies, and_true, true_and, implies_true, and_self]
    refine rx_sendInc hQ hs hx h100 (fun a => ?_) (fun a => ?_)
    · by_cases l : st s = 2
      · simp (disch := omega) only [h10, hst, l, forall_eq, Nat.le_refl, rl_10, rl_n10, nI_leI, nI_ltI, nI_eq, vp_in_nI, nI_clamp, nI_1, nI_add, rl_lt0, rl_0le, rl_eq0, rl_eq1, rl_eq2, rl_m1, rl_m8, rl_m100, rl_vb0, rl_vb1, true_implies, forall_const, not_true_eq_false, not_false_eq_true, false_implies, and_true, true_and, implies_true, and_self]
        refine rx_recInc hQ hs hx h100 (fun b => ?_) (fun b => ?_)
        · simp (disch := omega) only [h10, forall_eq, Nat.le_refl, rl_10, rl_n10, nI_leI, nI_ltI, nI_eq, vp_in_nI, nI_clamp, nI_1, nI_add, rl_lt0, rl_0le, rl_eq0, rl_eq1, rl_eq2, rl_m1, rl_m8, rl_m100, rl_vb0, rl_vb1, true_implies, forall_const, not_true_eq_false, not_false_eq_true, false_implies, and_true, true_and, implies_true, and_self]
          refine p2 ?_
          unfold rl_rb
          rw [if_neg e, if_pos a, if_neg (fun z => z.2 b)]
        · have e1 : rl_rb st sd rc si ri x s = 1 := by
            unfold rl_rb
            rw [if_neg e, if_pos a, if_pos ⟨l, b⟩]
          rw [e1] at p1
          try simp (disch := omega) only [forall_eq, Nat.le_refl, rl_10, rl_n10, nI_leI, nI_ltI, nI_eq, vp_in_nI, nI_clamp, nI_1, nI_add, rl_lt0, rl_0le, rl_eq0, rl_eq1, rl_eq2, rl_m1, rl_m8, rl_m100, rl_vb0, rl_vb1, true_implies, forall_const, not_true_eq_false, not_false_eq_true, false_implies, and_true, true_and, implies_true, and_self]
          exact p1
      · simp (disch := omega) only [h10, hst, l, forall_eq, Nat.le_refl, rl_10, rl_n10, nI_leI, nI_ltI, nI_eq, vp_in_nI, nI_clamp, nI_1, nI_add, rl_lt0, rl_0le, rl_eq0, rl_eq1, rl_eq2, rl_m1, rl_m8, rl_m100, rl_vb0, rl_vb1, true_implies, forall_const, not_true_eq_false, not_false_eq_true, false_implies, and_true, true_and, implies_true, and_self]
        refine p2 ?_
        unfold rl_rb
        rw [if_neg e, if_pos a, if_neg (fun z => l z.1)]
    · have e1 : rl_rb st sd rc si ri x s = 0 := by
        unfold rl_rb
        rw [if_neg e, if_neg a]
      rw [e1] at p1
      try simp (disch := omega) only [forall_eq, Nat.le_refl, rl_10, rl_n10, nI_leI, nI_ltI, nI_eq, vp_in_nI, nI_clamp, nI_1, nI_add, rl_lt0, rl_0le, rl_eq0, rl_eq1, rl_eq2, rl_m1, rl_m8, rl_m100, rl_vb0, rl_vb1, true_implies, forall_const, not_true_eq_false, not_false_eq_true, false_implies, and_true, true_and, implies_true, and_self]
      exact p1
theorem rx_rbP {post : St2 → Prop} {p K κ : Nat} {gp : Nat → Nat} (hp : p < 4) (hK : K ≤ 8) (hct : CT p = nI K) (hnb : ∀ k, k < K → NB (p * 8 + k) = nI (gp k)) (hκ : κ < K)
    (h99 : ∀ k, k < K → gp k ≤ 99) (hinj : ∀ k, k < K → gp k = gp κ → k = κ) (hl : LN p = nI (gp κ))
    (hpost : post (nI n, nI c, nI m, upd vX p (SV (p * 8 + κ)), upd IV p (nI (gp κ)), U, upd CT p (nI (κ + 1)), NB, SV, ST, SD, RC, PL, SI, RI, LN, ND, SE)) : wpX_rollBackProcess post (nI n, nI c, nI m, vX, IV, U, CT, NB, SV, ST, SD, RC, PL, SI, RI, LN, ND, SE) (nI p) := by
  simp (disch := omega) only [wpX_rollBackProcess, forall_eq, Nat.le_refl, rl_10, rl_n10, nI_leI, nI_ltI, nI_eq, vp_in_nI, nI_clamp, nI_1, nI_add, rl_lt0, rl_0le, rl_eq0, rl_eq1, rl_eq2, rl_m1, rl_m8, rl_m100, rl_vb0, rl_vb1, true_implies, forall_const, not_true_eq_false, not_false_eq_true, false_implies, and_true, true_and, implies_true, and_self]
  refine rx_cellOf hp hK hct hnb (fun k hk ek => ?_) (fun ek => ?_)
  · rw [hl] at ek
    have a1 := h99 k hk
    have a2 := h99 κ hκ
    have e1 : k = κ := hinj k hk ((nI_eq (by omega) (by omega)).mp ek)
    have hne := rl_ne4 (a := p * 8 + κ) (by omega)
    have hsub : nI (p * 8 + κ) - nI (p * 8) = nI κ := by
      rw [pk_sub (by omega)]
      congr 1
      omega
    have hn := hnb κ hκ
    simp (disch := omega) only [hne, wpX_firstCell, e1, hsub, hn, forall_eq, Nat.le_refl, rl_10, rl_n10, nI_leI, nI_ltI, nI_eq, vp_in_nI, nI_clamp, nI_1, nI_add, rl_lt0, rl_0le, rl_eq0, rl_eq1, rl_eq2, rl_m1, rl_m8, rl_m100, rl_vb0, rl_vb1, true_implies, forall_const, not_true_eq_false, not_false_eq_true, false_implies, and_true, true_and, implies_true, and_self]
    exact hpost
  · exact absurd hl.symm (ek κ hκ)
theorem rx_reco2_l (hA : rl_A n c m iv ct g st sd rc si ri IV CT NB ST SD RC SI RI) {post : Int32 → St2 → Prop} {L : Nat → Nat} (hx : ∀ p, p < n → LN p = nI (rl_G ct g iv p (L p))) (hle : rl_le n L ct) {ST1 : Nat → Int32}
    (hpost : post (rl_or (rl_rl ct L) n) (nI n, nI c, nI m, rl_mix n (rl_nf (rl_rl ct L) (fun p => SV (p * 8 + L p)) vX) vX, rl_mix n (rl_nf (rl_rl ct L) (fun p => nI (g p (L p))) IV) IV, rl_mix n (fun _ => 1) U, rl_mix n (rl_nf (rl_rl ct L) (fun p => nI (L p + 1)) CT) CT, NB, SV, ST1, SD, RC, PL, SI, RI, LN, ND, SE)) :
    ∀ (fu i : Nat), n < fu + i → i ≤ n → wX_recover_41 post fu (rl_or (rl_rl ct L) i) (nI i)
      (nI n) (nI c) (nI m) (rl_mix i (rl_nf (rl_rl ct L) (fun p => SV (p * 8 + L p)) vX) vX) (rl_mix i (rl_nf (rl_rl ct L) (fun p => nI (g p (L p))) IV) IV) (rl_mix i (fun _ => 1) U) (rl_mix i (rl_nf (rl_rl ct L) (fun p => nI (L p + 1)) CT) CT) NB SV ST1 SD RC PL SI RI LN ND SE := by
  have hA' := hA
  obtain ⟨hW, hIV, hCT, hNB, hST, hSD, hRC, hSI, hRI⟩ := hA'
  have hW' := hW
  obtain ⟨⟨⟨n2, n4⟩, ⟨c3, c8⟩, ⟨m4, m16⟩⟩, hS, hM, hB⟩ := hW'
  intro fu
  induction fu with
  | zero => intro i q1 q2; omega
  | succ fu ih =>
    intro i q1 q2
    by_cases e : n ≤ i
    · have e2 : i = n := by omega
      simp (disch := omega) only [wX_recover_41, e, forall_eq, Nat.le_refl, rl_10, rl_n10, nI_leI, nI_ltI, nI_eq, vp_in_nI, nI_clamp, nI_1, nI_add, rl_lt0, rl_0le, rl_eq0, rl_eq1, rl_eq2, rl_m1, rl_m8, rl_m100, rl_vb0, rl_vb1, true_implies, forall_const, not_true_eq_false, not_false_eq_true, false_implies, and_true, true_and, implies_true, and_self]
      rw [e2]; exact hpost
    · have hi : i < n := by omega
      obtain ⟨s1, s2, s3, s4, s5⟩ := hS i hi
      have hG := rl_G_100 hS (L i) hi
      have hLi := hle i hi
      have := ih (i + 1) (by omega) (by omega)
      simp (disch := omega) only [wX_recover_41, e, forall_eq, Nat.le_refl, rl_10, rl_n10, nI_leI, nI_ltI, nI_eq, vp_in_nI, nI_clamp, nI_1, nI_add, rl_lt0, rl_0le, rl_eq0, rl_eq1, rl_eq2, rl_m1, rl_m8, rl_m100, rl_vb0, rl_vb1, true_implies, forall_const, not_true_eq_false, not_false_eq_true, false_implies, and_true, true_and, implies_true, and_self]
      refine rx_isNow (v := iv i) (y := rl_G ct g iv i (L i)) (by omega) (by omega) (by omega) (by rw [rl_mix_ge (Nat.le_refl _)]; exact hIV i) (hx i hi) (fun a => ?_) (fun a => ?_)
      · have hc : ¬ L i < ct i := by
          intro z
          rw [rl_G_in z] at a
          have := s4 _ z
          omega
        have hr : ¬ rl_rl ct L i = true := fun z => hc (of_decide_eq_true z)
        have h10 : ¬ (1 : Int32) = 0 := by decide
        rw [rl_or_f hr, ← rl_mix_k (show rl_nf (rl_rl ct L) (fun p => SV (p * 8 + L p)) vX i = vX i from if_neg hr), ← rl_mix_k (show rl_nf (rl_rl ct L) (fun p => nI (g p (L p))) IV i = IV i from if_neg hr),
          ← rl_mix_k (show rl_nf (rl_rl ct L) (fun p => nI (L p + 1)) CT i = CT i from if_neg hr), ← rl_mix_s (i := i) (a := fun _ => (1 : Int32)) (x := 1) rfl] at this
        simp (disch := omega) only [h10, forall_eq, Nat.le_refl, rl_10, rl_n10, nI_leI, nI_ltI, nI_eq, vp_in_nI, nI_clamp, nI_1, nI_add, rl_lt0, rl_0le, rl_eq0, rl_eq1, rl_eq2, rl_m1, rl_m8, rl_m100, rl_vb0, rl_vb1, true_implies, forall_const, not_true_eq_false, not_false_eq_true, false_implies, and_true, true_and, implies_true, and_self]
        exact this
      · have hc : L i < ct i := by
          by_cases z : L i < ct i
          · exact z
          · rw [rl_G_now z] at a; omega
        have hr : rl_rl ct L i = true := decide_eq_true hc
        rw [rl_or_t hr, ← rl_mix_s (show SV (i * 8 + L i) = rl_nf (rl_rl ct L) (fun p => SV (p * 8 + L p)) vX i from (if_pos hr).symm), ← rl_mix_s (show nI (g i (L i)) = rl_nf (rl_rl ct L) (fun p => nI (g p (L p))) IV i from (if_pos hr).symm),
          ← rl_mix_s (show nI (L i + 1) = rl_nf (rl_rl ct L) (fun p => nI (L p + 1)) CT i from (if_pos hr).symm), ← rl_mix_s (i := i) (a := fun _ => (1 : Int32)) (x := 1) rfl] at this
        try simp (disch := omega) only [forall_eq, Nat.le_refl, rl_10, rl_n10, nI_leI, nI_ltI, nI_eq, vp_in_nI, nI_clamp, nI_1, nI_add, rl_lt0, rl_0le, rl_eq0, rl_eq1, rl_eq2, rl_m1, rl_m8, rl_m100, rl_vb0, rl_vb1, true_implies, forall_const, not_true_eq_false, not_false_eq_true, false_implies, and_true, true_and, implies_true, and_self]
        refine rx_rbP (K := ct i) (κ := L i) (gp := g i) (by omega) (by omega) (by rw [rl_mix_ge (Nat.le_refl _)]; exact hCT i) (hNB i hi) hc (fun k hk => by have := s4 k hk; omega) (fun k hk ek => ?_) (by rw [hx i hi, rl_G_in hc]) ?_
        · rcases Nat.lt_trichotomy k (L i) with z | z | z
          · have := s3 _ _ z hc; omega
          · exact z
          · have := s3 _ _ z hk; omega
        · try simp (disch := omega) only [forall_eq, Nat.le_refl, rl_10, rl_n10, nI_leI, nI_ltI, nI_eq, vp_in_nI, nI_clamp, nI_1, nI_add, rl_lt0, rl_0le, rl_eq0, rl_eq1, rl_eq2, rl_m1, rl_m8, rl_m100, rl_vb0, rl_vb1, true_implies, forall_const, not_true_eq_false, not_false_eq_true, false_implies, and_true, true_and, implies_true, and_self]
          exact this
theorem rx_reco1_l (hA : rl_A n c m iv ct g st sd rc si ri IV CT NB ST SD RC SI RI) {post : Int32 → St2 → Prop} {L : Nat → Nat} (hx : ∀ p, p < n → LN p = nI (rl_G ct g iv p (L p))) (hle : rl_le n L ct)
    (hpost : post (rl_or (rl_rl ct L) n) (nI n, nI c, nI m, rl_mix n (rl_nf (rl_rl ct L) (fun p => SV (p * 8 + L p)) vX) vX, rl_mix n (rl_nf (rl_rl ct L) (fun p => nI (g p (L p))) IV) IV, rl_mix n (fun _ => 1) U, rl_mix n (rl_nf (rl_rl ct L) (fun p => nI (L p + 1)) CT) CT, NB, SV, rl_mix m (fun s => nI (rl_rb st sd rc si ri (fun p => rl_G ct g iv p (L p)) s)) ST, SD, RC, PL, SI, RI, LN, ND, SE)) :
    ∀ (fu s : Nat), m < fu + s → s ≤ m → wX_recover_18 post fu (nI s) (nI n) (nI c) (nI m) vX IV U CT NB SV (rl_mix s (fun s => nI (rl_rb st sd rc si ri (fun p => rl_G ct g iv p (L p)) s)) ST) SD RC PL SI RI LN ND SE := by
  have hA' := hA
  obtain ⟨hW, hIV, hCT, hNB, hST, hSD, hRC, hSI, hRI⟩ := hA'
  have hW' := hW
  obtain ⟨⟨⟨n2, n4⟩, ⟨c3, c8⟩, ⟨m4, m16⟩⟩, hS, hM, hB⟩ := hW'
  intro fu
  induction fu with
  | zero => intro s q1 q2; omega
  | succ fu ih =>
    intro s q1 q2
    by_cases e : m ≤ s
    · have e2 : s = m := by omega
      simp (disch := omega) only [wX_recover_18, e, forall_eq, Nat.le_refl, rl_10, rl_n10, nI_leI, nI_ltI, nI_eq, vp_in_nI, nI_clamp, nI_1, nI_add, rl_lt0, rl_0le, rl_eq0, rl_eq1, rl_eq2, rl_m1, rl_m8, rl_m100, rl_vb0, rl_vb1, true_implies, forall_const, not_true_eq_false, not_false_eq_true, false_implies, and_true, true_and, implies_true, and_self]
      rw [e2]
      have := rx_reco2_l hA hx hle hpost (n + 1) 0 (by omega) (by omega)
      rw [rl_mix_0, rl_mix_0, rl_mix_0, rl_mix_0] at this
      exact ⟨_, this⟩
    · have hs : s < m := by omega
      have := ih (s + 1) (by omega) (by omega)
      simp (disch := omega) only [wX_recover_18, e, forall_eq, Nat.le_refl, rl_10, rl_n10, nI_leI, nI_ltI, nI_eq, vp_in_nI, nI_clamp, nI_1, nI_add, rl_lt0, rl_0le, rl_eq0, rl_eq1, rl_eq2, rl_m1, rl_m8, rl_m100, rl_vb0, rl_vb1, true_implies, forall_const, not_true_eq_false, not_false_eq_true, false_implies, and_true, true_and, implies_true, and_self]
      refine rx_rbS (rl_Q_of hA) (st := st) (x := fun p => rl_G ct g iv p (L p)) hs hx (fun p hp => rl_G_100 hS _ hp) (by rw [rl_mix_ge (Nat.le_refl _)]; exact hST s) (hM.1 s).1 ?_ (fun hk => ?_)
      · rw [← rl_mix_s (i := s) (a := fun s => nI (rl_rb st sd rc si ri (fun p => rl_G ct g iv p (L p)) s)) rfl] at this
        try simp (disch := omega) only [forall_eq, Nat.le_refl, rl_10, rl_n10, nI_leI, nI_ltI, nI_eq, vp_in_nI, nI_clamp, nI_1, nI_add, rl_lt0, rl_0le, rl_eq0, rl_eq1, rl_eq2, rl_m1, rl_m8, rl_m100, rl_vb0, rl_vb1, true_implies, forall_const, not_true_eq_false, not_false_eq_true, false_implies, and_true, true_and, implies_true, and_self]
        exact this
      · rw [← rl_mix_k (i := s) (a := fun s => nI (rl_rb st sd rc si ri (fun p => rl_G ct g iv p (L p)) s)) (show nI (rl_rb st sd rc si ri (fun p => rl_G ct g iv p (L p)) s) = ST s by rw [hk, hST])] at this
        try simp (disch := omega) only [forall_eq, Nat.le_refl, rl_10, rl_n10, nI_leI, nI_ltI, nI_eq, vp_in_nI, nI_clamp, nI_1, nI_add, rl_lt0, rl_0le, rl_eq0, rl_eq1, rl_eq2, rl_m1, rl_m8, rl_m100, rl_vb0, rl_vb1, true_implies, forall_const, not_true_eq_false, not_false_eq_true, false_implies, and_true, true_and, implies_true, and_self]
        exact this
theorem rx_recover (hA : rl_A n c m iv ct g st sd rc si ri IV CT NB ST SD RC SI RI) {post : Int32 → St2 → Prop} {L : Nat → Nat} (hL : rl_IsL n (rl_tp ct (rl_or (rl_dn U) n)) (rl_C m iv ct g st sd rc si ri) L) (h0 : rl_or (rl_dn U) n = 0 → post 0 (nI n, nI c, nI m, vX, IV, U, CT, NB, SV, ST, SD, RC, PL, SI, RI, LN, ND, SE))
    (h1 : ¬ rl_or (rl_dn U) n = 0 → ∀ LN', post (rl_or (rl_rl ct L) n) (nI n, nI c, nI m, rl_mix n (rl_nf (rl_rl ct L) (fun p => SV (p * 8 + L p)) vX) vX, rl_mix n (rl_nf (rl_rl ct L) (fun p => nI (g p (L p))) IV) IV, rl_mix n (fun _ => 1) U, rl_mix n (rl_nf (rl_rl ct L) (fun p => nI (L p + 1)) CT) CT, NB, SV, rl_mix m (fun s => nI (rl_rb st sd rc si ri (fun p => rl_G ct g iv p (L p)) s)) ST, SD, RC, PL, SI, RI, LN', ND, SE)) :
    wpX_recover post (nI n, nI c, nI m, vX, IV, U, CT, NB, SV, ST, SD, RC, PL, SI, RI, LN, ND, SE) := by
  have hA' := hA
  obtain ⟨hW, hIV, hCT, hNB, hST, hSD, hRC, hSI, hRI⟩ := hA'
  have hW' := hW
  obtain ⟨⟨⟨n2, n4⟩, ⟨c3, c8⟩, ⟨m4, m16⟩⟩, hS, hM, hB⟩ := hW'
  simp only [wpX_recover]
  refine rx_down n4 ?_
  try dsimp only
  by_cases e : rl_or (rl_dn U) n = 0
  · simp (disch := omega) only [e, forall_eq, Nat.le_refl, rl_10, rl_n10, nI_leI, nI_ltI, nI_eq, vp_in_nI, nI_clamp, nI_1, nI_add, rl_lt0, rl_0le, rl_eq0, rl_eq1, rl_eq2, rl_m1, rl_m8, rl_m100, rl_vb0, rl_vb1, true_implies, forall_const, not_true_eq_false, not_false_eq_true, false_implies, and_true, true_and, implies_true, and_self]
    exact h0 e
  · simp (disch := omega) only [e, forall_eq, Nat.le_refl, rl_10, rl_n10, nI_leI, nI_ltI, nI_eq, vp_in_nI, nI_clamp, nI_1, nI_add, rl_lt0, rl_0le, rl_eq0, rl_eq1, rl_eq2, rl_m1, rl_m8, rl_m100, rl_vb0, rl_vb1, true_implies, forall_const, not_true_eq_false, not_false_eq_true, false_implies, and_true, true_and, implies_true, and_self]
    refine rx_find hA hL (fun LN1 r1 => ?_)
    try dsimp only
    have := rx_reco1_l hA r1 (fun p hp => Nat.le_trans (hL.1 p hp) (rl_tp_le ct _ p)) (h1 e LN1) (m + 1) 0 (by omega) (by omega)
    rw [rl_mix_0] at this
    exact ⟨_, this⟩
end
