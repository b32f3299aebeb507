/-- the cells that a line (in CP) marks -/
def rl_kp (TB CP KP : Nat → Int32) : Nat → Int32 := fun j => if ¬ TB j = 0 ∧ nI (j % 100) = CP (j / 100) then 1 else KP j
/-- the slots that a line x unmarks -/
def rl_sl (st rc ri x : Nat → Nat) (SL : Nat → Int32) : Nat → Int32 := fun s => if st s = 2 ∧ ¬ ri s < x (rc s) then 0 else SL s
section
variable {n c m : Nat} {iv ct st sd rc si ri : Nat → Nat} {g : Nat → Nat → Nat}
variable {vY IV U TB TS ST SD RC PL SI RI CP KP SL : Nat → Int32}
theorem ry_jE {post : SY → Prop} {JC : Int32 → Int32 → Int32 → Int32 → (Nat → Int32) → (Nat → Int32) → (Nat → Int32) → (Nat → Int32) → (Nat → Int32) → (Nat → Int32) → (Nat → Int32) → (Nat → Int32) → (Nat → Int32) → (Nat → Int32) → (Nat → Int32) → (Nat → Int32) → (Nat → Int32) → (Nat → Int32) → Prop} {JD : Int32 → (Nat → Int32) → (Nat → Int32) → (Nat → Int32) → (Nat → Int32) → (Nat → Int32) → (Nat → Int32) → (Nat → Int32) → (Nat → Int32) → (Nat → Int32) → (Nat → Int32) → (Nat → Int32) → (Nat → Int32) → (Nat → Int32) → (Nat → Int32) → Prop} {x1 x2 : Int32} {p : Nat} (hp : p < 4)
    (hnext : JD (nI (p + 1)) vY IV U TB TS ST SD RC PL SI RI CP (rl_mix ((p + 1) * 100) (rl_kp TB CP KP) KP) SL) :
    ∀ (fu i : Nat), 100 < fu + i → i ≤ 100 → wY_judge_101 post JC JD x1 x2 (nI p) (nI n) (nI c) (nI m) fu (nI i) vY IV U TB TS ST SD RC PL SI RI CP (rl_mix (p * 100 + i) (rl_kp TB CP KP) KP) SL := by
  intro fu
  induction fu with
  | zero => intro i q1 q2; omega
  | succ fu ih =>
    intro i q1 q2
    by_cases e : 99 < i
    · have e2 : p * 100 + i = (p + 1) * 100 := by omega
      have e3 : ¬ i ≤ 99 := by omega
      simp (disch := omega) only [wY_judge_101, rl_99g, rl_99l, e, e3, forall_eq, Nat.le_refl, rl_10, rl_n10, nI_leI, nI_ltI, nI_eq, vp_in_nI, nI_clamp, nI_1, nI_add, rl_lt0, rl_0le, rl_eq0, rl_eq1, rl_eq2, rl_m1, rl_m8, rl_m100, rl_vb0, rl_vb1, true_implies, forall_const, not_true_eq_false, not_false_eq_true, false_implies, and_true, true_and, implies_true, and_self]
      rw [e2]
      exact hnext
    · have e3 : i ≤ 99 := by omega
      have := ih (i + 1) (by omega) (by omega)
      have d1 : (p * 100 + i) % 100 = i := by omega
      have d2 : (p * 100 + i) / 100 = p := by omega
      have ea : p * 100 + (i + 1) = (p * 100 + i) + 1 := by omega
      by_cases a : TB (p * 100 + i) = 0
      · have hk : rl_kp TB CP KP (p * 100 + i) = KP (p * 100 + i) := if_neg (fun z => z.1 a)
        rw [ea, ← rl_mix_k hk] at this
        simp (disch := omega) only [wY_judge_101, rl_99g, rl_99l, e, e3, a, forall_eq, Nat.le_refl, rl_10, rl_n10, nI_leI, nI_ltI, nI_eq, vp_in_nI, nI_clamp, nI_1, nI_add, rl_lt0, rl_0le, rl_eq0, rl_eq1, rl_eq2, rl_m1, rl_m8, rl_m100, rl_vb0, rl_vb1, true_implies, forall_const, not_true_eq_false, not_false_eq_true, false_implies, and_true, true_and, implies_true, and_self]
        exact this
      · by_cases b : nI i = CP p
        · have hk : (1 : Int32) = rl_kp TB CP KP (p * 100 + i) := by
            unfold rl_kp
            rw [d1, d2, if_pos ⟨a, b⟩]
          rw [ea, ← rl_mix_s hk] at this
          have b' := b.symm
          simp (disch := omega) only [wY_judge_101, rl_99g, rl_99l, e, e3, a, b', forall_eq, Nat.le_refl, rl_10, rl_n10, nI_leI, nI_ltI, nI_eq, vp_in_nI, nI_clamp, nI_1, nI_add, rl_lt0, rl_0le, rl_eq0, rl_eq1, rl_eq2, rl_m1, rl_m8, rl_m100, rl_vb0, rl_vb1, true_implies, forall_const, not_true_eq_false, not_false_eq_true, false_implies, and_true, true_and, implies_true, and_self]
          exact this
        · have hk : rl_kp TB CP KP (p * 100 + i) = KP (p * 100 + i) := by
            unfold rl_kp
            rw [d1, d2, if_neg (fun z => b z.2)]
          rw [ea, ← rl_mix_k hk] at this
          simp (disch := omega) only [wY_judge_101, rl_99g, rl_99l, e, e3, a, b, forall_eq, Nat.le_refl, rl_10, rl_n10, nI_leI, nI_ltI, nI_eq, vp_in_nI, nI_clamp, nI_1, nI_add, rl_lt0, rl_0le, rl_eq0, rl_eq1, rl_eq2, rl_m1, rl_m8, rl_m100, rl_vb0, rl_vb1, true_implies, forall_const, not_true_eq_false, not_false_eq_true, false_implies, and_true, true_and, implies_true, and_self]
          exact this
theorem ry_jF (hQ : rl_Q n m sd rc si ri SD RC SI RI) (hST : ∀ s, ST s = nI (st s)) (h2 : ∀ s, st s ≤ 2) {post : SY → Prop} {JC : Int32 → Int32 → Int32 → Int32 → (Nat → Int32) → (Nat → Int32) → (Nat → Int32) → (Nat → Int32) → (Nat → Int32) → (Nat → Int32) → (Nat → Int32) → (Nat → Int32) → (Nat → Int32) → (Nat → Int32) → (Nat → Int32) → (Nat → Int32) → (Nat → Int32) → (Nat → Int32) → Prop} {x1 x2 : Int32}
    {x : Nat → Nat} (hx : ∀ p, p < n → CP p = nI (x p)) (h100 : ∀ p, p < n → x p ≤ 100)
    (hnext : JC (x2 + 1) (nI n) (nI c) (nI m) vY IV U TB TS ST SD RC PL SI RI CP KP (rl_mix m (rl_sl st rc ri x SL) SL)) :
    ∀ (fu s : Nat), m < fu + s → s ≤ m → wY_judge_161 post JC x1 x2 (nI n) (nI c) (nI m) fu (nI s) vY IV U TB TS ST SD RC PL SI RI CP KP (rl_mix s (rl_sl st rc ri x SL) SL) := by
  obtain ⟨n4, m16, hM1, hSD, hRC, hSI, hRI⟩ := hQ
  intro fu
  induction fu with
  | zero => intro s q1 q2; omega
  | succ fu ih =>
    intro s q1 q2
    by_cases e : m ≤ s
    · have e2 : s = m := by omega
      simp (disch := omega) only [wY_judge_161, e, forall_eq, Nat.le_refl, rl_10, rl_n10, nI_leI, nI_ltI, nI_eq, vp_in_nI, nI_clamp, nI_1, nI_add, rl_lt0, rl_0le, rl_eq0, rl_eq1, rl_eq2, rl_m1, rl_m8, rl_m100, rl_vb0, rl_vb1, true_implies, forall_const, not_true_eq_false, not_false_eq_true, false_implies, and_true, true_and, implies_true, and_self]
      rw [e2]; exact hnext
    · have := ih (s + 1) (by omega) (by omega)
      obtain ⟨t2, t3, t4, t5⟩ := hM1 s
      have x1' := hx _ t3
      have x2' := h100 _ t3
      have h2s := h2 s
      by_cases a : st s = 2
      · by_cases b : ri s < x (rc s)
        · have b2 : ¬ x (rc s) ≤ ri s := by omega
          rw [← rl_mix_k (show rl_sl st rc ri x SL s = SL s from if_neg (fun z => z.2 b))] at this
          simp (disch := omega) only [wY_judge_161, e, hST, hRC, hRI, a, b, b2, x1', forall_eq, Nat.le_refl, rl_10, rl_n10, nI_leI, nI_ltI, nI_eq, vp_in_nI, nI_clamp, nI_1, nI_add, rl_lt0, rl_0le, rl_eq0, rl_eq1, rl_eq2, rl_m1, rl_m8, rl_m100, rl_vb0, rl_vb1, true_implies, forall_const, not_true_eq_false, not_false_eq_true, false_implies, and_true, true_and, implies_true, and_self]
          exact this
        · have b2 : x (rc s) ≤ ri s := by omega
          rw [← rl_mix_s (show (0 : Int32) = rl_sl st rc ri x SL s from (if_pos ⟨a, b⟩).symm)] at this
          simp (disch := omega) only [wY_judge_161, e, hST, hRC, hRI, a, b, b2, x1', forall_eq, Nat.le_refl, rl_10, rl_n10, nI_leI, nI_ltI, nI_eq, vp_in_nI, nI_clamp, nI_1, nI_add, rl_lt0, rl_0le, rl_eq0, rl_eq1, rl_eq2, rl_m1, rl_m8, rl_m100, rl_vb0, rl_vb1, true_implies, forall_const, not_true_eq_false, not_false_eq_true, false_implies, and_true, true_and, implies_true, and_self]
          exact this
      · rw [← rl_mix_k (show rl_sl st rc ri x SL s = SL s from if_neg (fun z => a z.1))] at this
        simp (disch := omega) only [wY_judge_161, e, hST, a, forall_eq, Nat.le_refl, rl_10, rl_n10, nI_leI, nI_ltI, nI_eq, vp_in_nI, nI_clamp, nI_1, nI_add, rl_lt0, rl_0le, rl_eq0, rl_eq1, rl_eq2, rl_m1, rl_m8, rl_m100, rl_vb0, rl_vb1, true_implies, forall_const, not_true_eq_false, not_false_eq_true, false_implies, and_true, true_and, implies_true, and_self]
        exact this
theorem ry_jD (hQ : rl_Q n m sd rc si ri SD RC SI RI) (hST : ∀ s, ST s = nI (st s)) (h2 : ∀ s, st s ≤ 2) {post : SY → Prop} {JC : Int32 → Int32 → Int32 → Int32 → (Nat → Int32) → (Nat → Int32) → (Nat → Int32) → (Nat → Int32) → (Nat → Int32) → (Nat → Int32) → (Nat → Int32) → (Nat → Int32) → (Nat → Int32) → (Nat → Int32) → (Nat → Int32) → (Nat → Int32) → (Nat → Int32) → (Nat → Int32) → Prop} {x1 x2 : Int32}
    {x : Nat → Nat} (hx : ∀ p, p < n → CP p = nI (x p)) (h100 : ∀ p, p < n → x p ≤ 100)
    (hnext : JC (x2 + 1) (nI n) (nI c) (nI m) vY IV U TB TS ST SD RC PL SI RI CP (rl_mix (n * 100) (rl_kp TB CP KP) KP) (rl_mix m (rl_sl st rc ri x SL) SL)) :
    ∀ (fu p : Nat), n < fu + p → p ≤ n → wY_judge_90 post JC x1 x2 (nI n) (nI c) (nI m) fu (nI p) vY IV U TB TS ST SD RC PL SI RI CP (rl_mix (p * 100) (rl_kp TB CP KP) KP) SL := by
  have hQ' := hQ
  obtain ⟨n4, m16, hM1, hSD, hRC, hSI, hRI⟩ := hQ'
  intro fu
  induction fu with
  | zero => intro p q1 q2; omega
  | succ fu ih =>
    intro p q1 q2
    by_cases e : n ≤ p
    · have e2 : p = n := by omega
      simp (disch := omega) only [wY_judge_90, e, forall_eq, Nat.le_refl, rl_10, rl_n10, nI_leI, nI_ltI, nI_eq, vp_in_nI, nI_clamp, nI_1, nI_add, rl_lt0, rl_0le, rl_eq0, rl_eq1, rl_eq2, rl_m1, rl_m8, rl_m100, rl_vb0, rl_vb1, true_implies, forall_const, not_true_eq_false, not_false_eq_true, false_implies, and_true, true_and, implies_true, and_self]
      rw [e2]
      have := ry_jF hQ hST h2 (post := post) (x1 := x1) hx h100 hnext (m + 1) 0 (by omega) (by omega)
      rw [rl_mix_0] at this
      exact ⟨_, this⟩
    · have := ih (p + 1) (by omega) (by omega)
      simp (disch := omega) only [wY_judge_90, e, forall_eq, Nat.le_refl, rl_10, rl_n10, nI_leI, nI_ltI, nI_eq, vp_in_nI, nI_clamp, nI_1, nI_add, rl_lt0, rl_0le, rl_eq0, rl_eq1, rl_eq2, rl_m1, rl_m8, rl_m100, rl_vb0, rl_vb1, true_implies, forall_const, not_true_eq_false, not_false_eq_true, false_implies, and_true, true_and, implies_true, and_self]
      exact ⟨101, ry_jE (by omega) this 101 0 (by omega) (by omega)⟩
theorem ry_jC (hB : rl_AY n c m iv ct g st sd rc si ri IV TB ST SD RC SI RI) {post : SY → Prop} {Ls : Int32 → Nat → Nat} (hL : ∀ T, rl_IsL n (rl_tp ct T) (rl_C m iv ct g st sd rc si ri) (Ls T)) {D : Int32}
    (hpost : ∀ CP' KP' SL', (∀ p, p < n → ∀ k, k < ct p → (¬ KP' (p * 100 + g p k) = 0 ↔ rl_Nd D Ls (2 ^ n) p k)) →
      (∀ s, s < m → (¬ SL' s = 0 ↔ rl_Se D (fun T p => rl_G ct g iv p (Ls T p)) st rc ri (2 ^ n) s)) → post (nI n, nI c, nI m, vY, IV, U, TB, TS, ST, SD, RC, PL, SI, RI, CP', KP', SL')) :
    ∀ (fu J : Nat) (CP KP SL : Nat → Int32), 2 ^ n < fu + J → J ≤ 2 ^ n → (∀ p, p < n → ∀ k, k < ct p → (¬ KP (p * 100 + g p k) = 0 ↔ rl_Nd D Ls J p k)) →
      (∀ s, s < m → (¬ SL s = 0 ↔ rl_Se D (fun T p => rl_G ct g iv p (Ls T p)) st rc ri J s)) → wY_judge_66 post D fu (nI J) (nI n) (nI c) (nI m) vY IV U TB TS ST SD RC PL SI RI CP KP SL := by
  have hB' := hB
  obtain ⟨hW, hIV, hT, hST, hSD, hRC, hSI, hRI⟩ := hB'
  have hW' := hW
  obtain ⟨⟨⟨n2, n4⟩, ⟨c3, c8⟩, ⟨m4, m16⟩⟩, hS, hM, _⟩ := hW'
  have h16 := rl_16 n4
  have h1n := rl_1n n2 n4
  have hQ : rl_Q n m sd rc si ri SD RC SI RI := ⟨n4, m16, fun s => (hM.1 s).2, hSD, hRC, hSI, hRI⟩
  intro fu
  induction fu with
  | zero => intro J CP KP SL q1 q2; omega
  | succ fu ih =>
    intro J CP KP SL q1 q2 q3 q4
    by_cases e : 2 ^ n ≤ J
    · have e2 : J = 2 ^ n := by omega
      simp (disch := omega) only [wY_judge_66, h1n, e, forall_eq, Nat.le_refl, rl_10, rl_n10, nI_leI, nI_ltI, nI_eq, vp_in_nI, nI_clamp, nI_1, nI_add, rl_lt0, rl_0le, rl_eq0, rl_eq1, rl_eq2, rl_m1, rl_m8, rl_m100, rl_vb0, rl_vb1, true_implies, forall_const, not_true_eq_false, not_false_eq_true, false_implies, and_true, true_and, implies_true, and_self]
      rw [e2] at q3 q4
      exact hpost CP KP SL q3 q4
    · by_cases l : (nI J &&& D) = D
      · simp (disch := omega) only [wY_judge_66, h1n, e, l, forall_eq, Nat.le_refl, rl_10, rl_n10, nI_leI, nI_ltI, nI_eq, vp_in_nI, nI_clamp, nI_1, nI_add, rl_lt0, rl_0le, rl_eq0, rl_eq1, rl_eq2, rl_m1, rl_m8, rl_m100, rl_vb0, rl_vb1, true_implies, forall_const, not_true_eq_false, not_false_eq_true, false_implies, and_true, true_and, implies_true, and_self]
        refine ry_line hB (hL (nI J)) (fun CP1 r1 => ?_)
        try dsimp only
        have nxt : wY_judge_66 post D fu (nI (J + 1)) (nI n) (nI c) (nI m) vY IV U TB TS ST SD RC PL SI RI CP1 (rl_mix (n * 100) (rl_kp TB CP1 KP) KP) (rl_mix m (rl_sl st rc ri (fun p => rl_G ct g iv p (Ls (nI J) p)) SL) SL) := by
          refine ih (J + 1) _ _ _ (by omega) (by omega) (fun p hp k hk => ?_) (fun s hs => ?_)
          · obtain ⟨s1, s2, s3, s4, s5⟩ := hS p hp
            have hg := s4 k hk
            have d1 : (p * 100 + g p k) % 100 = g p k := by omega
            have d2 : (p * 100 + g p k) / 100 = p := by omega
            have hle : Ls (nI J) p ≤ ct p := Nat.le_trans ((hL (nI J)).1 p hp) (rl_tp_le ct _ p)
            have hG := rl_G_100 hS (Ls (nI J) p) hp
            have hTB : ¬ TB (p * 100 + g p k) = 0 := (hT p hp _ (by omega)).mpr ⟨k, hk, rfl⟩
            rw [rl_mix_lt (by omega), rl_Nd_t l]
            unfold rl_kp
            rw [d1, d2, r1 p hp]
            by_cases z : Ls (nI J) p = k
            · have : nI (g p k) = nI (rl_G ct g iv p (Ls (nI J) p)) := by rw [z, rl_G_in hk]
              rw [if_pos ⟨hTB, this⟩]
              exact ⟨fun _ => Or.inr z, fun _ => by decide⟩
            · have : ¬ (¬ TB (p * 100 + g p k) = 0 ∧ nI (g p k) = nI (rl_G ct g iv p (Ls (nI J) p))) := by
                intro w
                have w2 : g p k = rl_G ct g iv p (Ls (nI J) p) := (nI_eq (by omega) (by omega)).mp w.2
                rw [← rl_G_in (ct := ct) (g := g) (iv := iv) hk] at w2
                exact z (rl_G_inj hS hp (by omega) hle w2).symm
              rw [if_neg this, q3 p hp k hk]
              exact ⟨fun h => Or.inl h, fun h => h.resolve_right z⟩
          · rw [rl_mix_lt hs, rl_Se_t l, ← q4 s hs]
            unfold rl_sl
            by_cases a : st s = 2
            · by_cases b : ri s < rl_G ct g iv (rc s) (Ls (nI J) (rc s))
              · rw [if_neg (fun z => z.2 b)]
                exact ⟨fun h => ⟨h, b⟩, fun h => h.1⟩
              · rw [if_pos ⟨a, b⟩]
                exact ⟨fun h => absurd rfl h, fun h => absurd h.2 b⟩
            · rw [if_neg (fun z => a z.1)]
              exact ⟨fun h => absurd ((q4 s hs).mp h).1 a, fun h => h.1⟩
        have := ry_jD hQ hST (fun s => (hM.1 s).1) (post := post) (x1 := D) (x2 := nI J) (CP := CP1) (KP := KP) (SL := SL) (JC := wY_judge_66 post D fu) r1 (fun p hp => rl_G_100 hS _ hp)
          (by rw [nI_1]; exact nxt) (n + 1) 0 (by omega) (by omega)
        rw [Nat.zero_mul, rl_mix_0] at this
        exact ⟨_, this⟩
      · simp (disch := omega) only [wY_judge_66, h1n, e, l, forall_eq, Nat.le_refl, rl_10, rl_n10, nI_leI, nI_ltI, nI_eq, vp_in_nI, nI_clamp, nI_1, nI_add, rl_lt0, rl_0le, rl_eq0, rl_eq1, rl_eq2, rl_m1, rl_m8, rl_m100, rl_vb0, rl_vb1, true_implies, forall_const, not_true_eq_false, not_false_eq_true, false_implies, and_true, true_and, implies_true, and_self]
        refine ih (J + 1) _ _ _ (by omega) (by omega) (fun p hp k hk => ?_) (fun s hs => ?_)
        · rw [rl_Nd_f l, q3 p hp k hk]
        · rw [rl_Se_f l, q4 s hs]
theorem ry_jB (hB : rl_AY n c m iv ct g st sd rc si ri IV TB ST SD RC SI RI) {post : SY → Prop} {x1 : Int32} (hnext : ∃ f, wY_judge_66 post x1 f 0 (nI n) (nI c) (nI m) vY IV U TB TS ST SD RC PL SI RI CP KP (rl_mix m (rl_r2 st) SL)) :
    ∀ (fu s : Nat), m < fu + s → s ≤ m → wY_judge_29 post x1 (nI n) (nI c) (nI m) fu (nI s) vY IV U TB TS ST SD RC PL SI RI CP KP (rl_mix s (rl_r2 st) SL) := by
  have hB' := hB
  obtain ⟨hW, hIV, hT, hST, hSD, hRC, hSI, hRI⟩ := hB'
  have hW' := hW
  obtain ⟨⟨⟨n2, n4⟩, ⟨c3, c8⟩, ⟨m4, m16⟩⟩, hS, hM, _⟩ := hW'
  intro fu
  induction fu with
  | zero => intro s q1 q2; omega
  | succ fu ih =>
    intro s q1 q2
    obtain ⟨t1, t2, t3, t4, t5⟩ := hM.1 s
    by_cases e : m ≤ s
    · have e2 : s = m := by omega
      simp (disch := omega) only [wY_judge_29, e, forall_eq, Nat.le_refl, rl_10, rl_n10, nI_leI, nI_ltI, nI_eq, vp_in_nI, nI_clamp, nI_1, nI_add, rl_lt0, rl_0le, rl_eq0, rl_eq1, rl_eq2, rl_m1, rl_m8, rl_m100, rl_vb0, rl_vb1, true_implies, forall_const, not_true_eq_false, not_false_eq_true, false_implies, and_true, true_and, implies_true, and_self]
      rw [e2]; exact hnext
    · have := ih (s + 1) (by omega) (by omega)
      by_cases l : st s = 2
      · rw [← rl_mix_s (show (1 : Int32) = rl_r2 st s from (if_pos l).symm)] at this
        simp (disch := omega) only [wY_judge_29, e, hST, l, forall_eq, Nat.le_refl, rl_10, rl_n10, nI_leI, nI_ltI, nI_eq, vp_in_nI, nI_clamp, nI_1, nI_add, rl_lt0, rl_0le, rl_eq0, rl_eq1, rl_eq2, rl_m1, rl_m8, rl_m100, rl_vb0, rl_vb1, true_implies, forall_const, not_true_eq_false, not_false_eq_true, false_implies, and_true, true_and, implies_true, and_self]
        exact this
      · rw [← rl_mix_s (show (0 : Int32) = rl_r2 st s from (if_neg l).symm)] at this
        simp (disch := omega) only [wY_judge_29, e, hST, l, forall_eq, Nat.le_refl, rl_10, rl_n10, nI_leI, nI_ltI, nI_eq, vp_in_nI, nI_clamp, nI_1, nI_add, rl_lt0, rl_0le, rl_eq0, rl_eq1, rl_eq2, rl_m1, rl_m8, rl_m100, rl_vb0, rl_vb1, true_implies, forall_const, not_true_eq_false, not_false_eq_true, false_implies, and_true, true_and, implies_true, and_self]
        exact this
theorem ry_jA (hB : rl_AY n c m iv ct g st sd rc si ri IV TB ST SD RC SI RI) {post : SY → Prop} {x1 : Int32} (hnext : ∃ f, wY_judge_66 post x1 f 0 (nI n) (nI c) (nI m) vY IV U TB TS ST SD RC PL SI RI CP (rl_mix 400 (fun _ => 0) KP) (rl_mix m (rl_r2 st) SL)) :
    ∀ (fu i : Nat), 400 < fu + i → i ≤ 400 → wY_judge_7 post x1 (nI n) (nI c) (nI m) fu (nI i) vY IV U TB TS ST SD RC PL SI RI CP (rl_mix i (fun _ => 0) KP) SL := by
  intro fu
  induction fu with
  | zero => intro i q1 q2; omega
  | succ fu ih =>
    intro i q1 q2
    by_cases e : 400 ≤ i
    · have e2 : i = 400 := by omega
      subst e2
      simp (disch := omega) only [wY_judge_7, e, rl_400, forall_eq, Nat.le_refl, rl_10, rl_n10, nI_leI, nI_ltI, nI_eq, vp_in_nI, nI_clamp, nI_1, nI_add, rl_lt0, rl_0le, rl_eq0, rl_eq1, rl_eq2, rl_m1, rl_m8, rl_m100, rl_vb0, rl_vb1, true_implies, forall_const, not_true_eq_false, not_false_eq_true, false_implies, and_true, true_and, implies_true, and_self]
      have := ry_jB hB hnext (m + 1) 0 (by omega) (by omega)
      rw [rl_mix_0] at this
      exact ⟨_, this⟩
    · have := ih (i + 1) (by omega) (by omega)
      rw [← rl_mix_s (x := 0) rfl] at this
      simp (disch := omega) only [wY_judge_7, e, rl_400, forall_eq, Nat.le_refl, rl_10, rl_n10, nI_leI, nI_ltI, nI_eq, vp_in_nI, nI_clamp, nI_1, nI_add, rl_lt0, rl_0le, rl_eq0, rl_eq1, rl_eq2, rl_m1, rl_m8, rl_m100, rl_vb0, rl_vb1, true_implies, forall_const, not_true_eq_false, not_false_eq_true, false_implies, and_true, true_and, implies_true, and_self]
      exact this
theorem ry_judge (hB : rl_AY n c m iv ct g st sd rc si ri IV TB ST SD RC SI RI) {post : SY → Prop} {Ls : Int32 → Nat → Nat} (hL : ∀ T, rl_IsL n (rl_tp ct T) (rl_C m iv ct g st sd rc si ri) (Ls T))
    (hpost : ∀ CP' KP' SL', (∀ p, p < n → ∀ k, k < ct p → (¬ KP' (p * 100 + g p k) = 0 ↔ rl_Nd (rl_or (rl_dn U) n) Ls (2 ^ n) p k)) →
      (∀ s, s < m → (¬ SL' s = 0 ↔ rl_Se (rl_or (rl_dn U) n) (fun T p => rl_G ct g iv p (Ls T p)) st rc ri (2 ^ n) s)) → post (nI n, nI c, nI m, vY, IV, U, TB, TS, ST, SD, RC, PL, SI, RI, CP', KP', SL')) :
    wpY_judge post (nI n, nI c, nI m, vY, IV, U, TB, TS, ST, SD, RC, PL, SI, RI, CP, KP, SL) := by
  have hB' := hB
  obtain ⟨hW, hIV, hT, hST, hSD, hRC, hSI, hRI⟩ := hB'
  have hW' := hW
  obtain ⟨⟨⟨n2, n4⟩, ⟨c3, c8⟩, ⟨m4, m16⟩⟩, hS, hM, _⟩ := hW'
  simp only [wpY_judge]
  refine ry_down n2 n4 ?_
  try dsimp only
  have := ry_jA hB (KP := KP) (SL := SL) (post := post) (x1 := rl_or (rl_dn U) n) ⟨2 ^ n + 1, ry_jC hB hL hpost (2 ^ n + 1) 0 CP _ _ (Nat.lt_succ_self _) (Nat.zero_le _) (fun p hp k hk => ?_) (fun s hs => ?_)⟩ 401 0 (by omega) (by omega)
  · rw [rl_mix_0] at this
    exact ⟨_, this⟩
  · obtain ⟨s1, s2, s3, s4, s5⟩ := hS p hp
    have := s4 k hk
    rw [rl_mix_lt (by omega)]
    exact ⟨fun z => absurd rfl z, fun z => absurd z rl_Nd_0⟩
  · rw [rl_mix_lt hs, rl_Se_0]
    unfold rl_r2
    by_cases l : st s = 2
    · rw [if_pos l]; exact ⟨fun _ => l, fun _ => by decide⟩
    · rw [if_neg l]; exact ⟨fun z => absurd rfl z, fun z => absurd z l⟩
end
