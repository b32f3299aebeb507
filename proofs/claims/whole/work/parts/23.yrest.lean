/-- what the reference keeps of its table -/
def rl_tb (KP TB : Nat → Int32) : Nat → Int32 := fun j => if KP j = 0 then 0 else TB j
def rl_dr (KP TB : Nat → Int32) : Nat → Bool := fun j => decide (¬ TB j = 0) && decide (KP j = 0)
/-- its table behind a recovery: x the numbers of the line, f the processes that roll back -/
def rl_tr (f : Nat → Bool) (x : Nat → Nat) (TB : Nat → Int32) : Nat → Int32 := fun j => if f (j / 100) = true ∧ x (j / 100) < j % 100 then 0 else TB j
def rl_vi (y i : Nat) (a b : Nat → Int32) : Nat → Int32 := if y < i then a else b
theorem rl_vi_t {y i : Nat} {a b : Nat → Int32} (h : y < i) : rl_vi y i a b = a := if_pos h
theorem rl_vi_f {y i : Nat} {a b : Nat → Int32} (h : ¬ y < i) : rl_vi y i a b = b := if_neg h
theorem rl_p100 (a : Nat) : nI a + 100 = nI (a + 100) := nI_add a 100
section
variable {n c m : Nat} {iv ct st sd rc si ri : Nat → Nat} {g : Nat → Nat → Nat}
variable {vY IV U TB TS ST SD RC PL SI RI CP KP SL : Nat → Int32}
theorem ry_recl2_l {post : Int32 → SY → Prop} {R : Nat} (m16 : m ≤ 16) (hpost : post (nI (R + rl_cn (rl_nz SL) m)) (nI n, nI c, nI m, vY, IV, U, TB, TS, rl_mix m (rl_cl SL ST) ST, SD, RC, PL, SI, RI, CP, KP, SL)) :
    ∀ (fu s : Nat), m < fu + s → s ≤ m → wY_reclaim_51 post (nI n) (nI c) (nI m) fu (nI (R + rl_cn (rl_nz SL) s)) (nI s) vY IV U TB TS (rl_mix s (rl_cl SL ST) ST) SD RC PL SI RI CP KP SL := by
  intro fu
  induction fu with
  | zero => intro s q1 q2; omega
  | succ fu ih =>
    intro s q1 q2
    by_cases e : m ≤ s
    · have e2 : s = m := by omega
      simp (disch := omega) only [wY_reclaim_51, e, forall_eq, Nat.le_refl, rl_10, rl_n10, nI_leI, nI_ltI, nI_eq, vp_in_nI, nI_clamp, nI_1, nI_add, rl_lt0, rl_0le, rl_eq0, rl_eq1, rl_eq2, rl_m1, rl_m8, rl_m100, rl_vb0, rl_vb1, true_implies, forall_const, not_true_eq_false, not_false_eq_true, false_implies, and_true, true_and, implies_true, and_self]
      rw [e2]; exact hpost
    · have := ih (s + 1) (by omega) (by omega)
      by_cases l : SL s = 0
      · have hn : ¬ rl_nz SL s = true := fun z => (of_decide_eq_true z) l
        rw [rl_cn_f hn, ← rl_mix_k (show rl_cl SL ST s = ST s from if_pos l)] at this
        simp (disch := omega) only [wY_reclaim_51, e, l, forall_eq, Nat.le_refl, rl_10, rl_n10, nI_leI, nI_ltI, nI_eq, vp_in_nI, nI_clamp, nI_1, nI_add, rl_lt0, rl_0le, rl_eq0, rl_eq1, rl_eq2, rl_m1, rl_m8, rl_m100, rl_vb0, rl_vb1, true_implies, forall_const, not_true_eq_false, not_false_eq_true, false_implies, and_true, true_and, implies_true, and_self]
        exact this
      · have hn : rl_nz SL s = true := decide_eq_true l
        rw [rl_cn_t hn, ← Nat.add_assoc, ← rl_mix_s (show (0 : Int32) = rl_cl SL ST s from (if_neg l).symm)] at this
        simp (disch := omega) only [wY_reclaim_51, e, l, forall_eq, Nat.le_refl, rl_10, rl_n10, nI_leI, nI_ltI, nI_eq, vp_in_nI, nI_clamp, nI_1, nI_add, rl_lt0, rl_0le, rl_eq0, rl_eq1, rl_eq2, rl_m1, rl_m8, rl_m100, rl_vb0, rl_vb1, true_implies, forall_const, not_true_eq_false, not_false_eq_true, false_implies, and_true, true_and, implies_true, and_self]
        exact this
theorem ry_recl1_l {post : Int32 → SY → Prop} (m16 : m ≤ 16) (hpost : post (nI (100 * rl_cn (rl_dr KP TB) 400 + rl_cn (rl_nz SL) m)) (nI n, nI c, nI m, vY, IV, U, rl_mix 400 (rl_tb KP TB) TB, TS, rl_mix m (rl_cl SL ST) ST, SD, RC, PL, SI, RI, CP, KP, SL)) :
    ∀ (fu i : Nat), 400 < fu + i → i ≤ 400 → wY_reclaim_8 post (nI n) (nI c) (nI m) fu (nI (100 * rl_cn (rl_dr KP TB) i)) (nI i) vY IV U (rl_mix i (rl_tb KP TB) TB) TS ST SD RC PL SI RI CP KP SL := by
  intro fu
  induction fu with
  | zero => intro i q1 q2; omega
  | succ fu ih =>
    intro i q1 q2
    by_cases e : 400 ≤ i
    · have e2 : i = 400 := by omega
      subst e2
      simp (disch := omega) only [wY_reclaim_8, rl_400, e, forall_eq, Nat.le_refl, rl_10, rl_n10, nI_leI, nI_ltI, nI_eq, vp_in_nI, nI_clamp, nI_1, nI_add, rl_lt0, rl_0le, rl_eq0, rl_eq1, rl_eq2, rl_m1, rl_m8, rl_m100, rl_vb0, rl_vb1, true_implies, forall_const, not_true_eq_false, not_false_eq_true, false_implies, and_true, true_and, implies_true, and_self]
      have := ry_recl2_l (TB := rl_mix 400 (rl_tb KP TB) TB) (R := 100 * rl_cn (rl_dr KP TB) 400) m16 hpost (m + 1) 0 (by omega) (by omega)
      rw [rl_mix_0] at this
      exact ⟨_, this⟩
    · have := ih (i + 1) (by omega) (by omega)
      have hTB : rl_mix i (rl_tb KP TB) TB i = TB i := rl_mix_ge (Nat.le_refl _)
      by_cases a : TB i = 0
      · have hn : ¬ rl_dr KP TB i = true := by unfold rl_dr; simp [a]
        have hk : rl_tb KP TB i = TB i := by unfold rl_tb; rw [a]; split <;> rfl
        rw [rl_cn_f hn, ← rl_mix_k hk] at this
        simp (disch := omega) only [wY_reclaim_8, rl_400, e, hTB, a, forall_eq, Nat.le_refl, rl_10, rl_n10, nI_leI, nI_ltI, nI_eq, vp_in_nI, nI_clamp, nI_1, nI_add, rl_lt0, rl_0le, rl_eq0, rl_eq1, rl_eq2, rl_m1, rl_m8, rl_m100, rl_vb0, rl_vb1, true_implies, forall_const, not_true_eq_false, not_false_eq_true, false_implies, and_true, true_and, implies_true, and_self]
        exact this
      · by_cases b : KP i = 0
        · have hn : rl_dr KP TB i = true := by unfold rl_dr; simp [a, b]
          have hk : (0 : Int32) = rl_tb KP TB i := (if_pos b).symm
          rw [rl_cn_t hn, Nat.mul_add, Nat.mul_one, ← rl_mix_s hk] at this
          simp (disch := omega) only [wY_reclaim_8, rl_400, rl_p100, e, hTB, a, b, forall_eq, Nat.le_refl, rl_10, rl_n10, nI_leI, nI_ltI, nI_eq, vp_in_nI, nI_clamp, nI_1, nI_add, rl_lt0, rl_0le, rl_eq0, rl_eq1, rl_eq2, rl_m1, rl_m8, rl_m100, rl_vb0, rl_vb1, true_implies, forall_const, not_true_eq_false, not_false_eq_true, false_implies, and_true, true_and, implies_true, and_self]
          exact this
        · have hn : ¬ rl_dr KP TB i = true := by unfold rl_dr; simp [b]
          have hk : rl_tb KP TB i = TB i := if_neg b
          rw [rl_cn_f hn, ← rl_mix_k hk] at this
          simp (disch := omega) only [wY_reclaim_8, rl_400, e, hTB, a, b, forall_eq, Nat.le_refl, rl_10, rl_n10, nI_leI, nI_ltI, nI_eq, vp_in_nI, nI_clamp, nI_1, nI_add, rl_lt0, rl_0le, rl_eq0, rl_eq1, rl_eq2, rl_m1, rl_m8, rl_m100, rl_vb0, rl_vb1, true_implies, forall_const, not_true_eq_false, not_false_eq_true, false_implies, and_true, true_and, implies_true, and_self]
          exact this
theorem ry_reclaim (hB : rl_AY n c m iv ct g st sd rc si ri IV TB ST SD RC SI RI) {post : Int32 → SY → Prop} {Ls : Int32 → Nat → Nat} (hL : ∀ T, rl_IsL n (rl_tp ct T) (rl_C m iv ct g st sd rc si ri) (Ls T))
    (hpost : ∀ CP' KP' SL', (∀ p, p < n → ∀ k, k < ct p → (¬ KP' (p * 100 + g p k) = 0 ↔ rl_Nd (rl_or (rl_dn U) n) Ls (2 ^ n) p k)) →
      (∀ s, s < m → (¬ SL' s = 0 ↔ rl_Se (rl_or (rl_dn U) n) (fun T p => rl_G ct g iv p (Ls T p)) st rc ri (2 ^ n) s)) →
      post (nI (100 * rl_cn (rl_dr KP' TB) 400 + rl_cn (rl_nz SL') m)) (nI n, nI c, nI m, vY, IV, U, rl_mix 400 (rl_tb KP' TB) TB, TS, rl_mix m (rl_cl SL' ST) ST, SD, RC, PL, SI, RI, CP', KP', SL')) :
    wpY_reclaim post (nI n, nI c, nI m, vY, IV, U, TB, TS, ST, SD, RC, PL, SI, RI, CP, KP, SL) := by
  have hB' := hB
  obtain ⟨hW, hIV, hT, hST, hSD, hRC, hSI, hRI⟩ := hB'
  have hW' := hW
  obtain ⟨⟨⟨n2, n4⟩, ⟨c3, c8⟩, ⟨m4, m16⟩⟩, hS, hM, _⟩ := hW'
  simp only [wpY_reclaim]
  refine ry_judge hB hL (fun CP1 KP1 SL1 r1 r2 => ?_)
  try dsimp only
  have := ry_recl1_l (KP := KP1) (SL := SL1) (CP := CP1) (TB := TB) (ST := ST) m16 (hpost CP1 KP1 SL1 r1 r2) 401 0 (by omega) (by omega)
  rw [rl_mix_0] at this
  exact ⟨_, this⟩
theorem ry_rA (hB : rl_AY n c m iv ct g st sd rc si ri IV TB ST SD RC SI RI) {post : Int32 → SY → Prop} {x : Nat → Nat} (hx : ∀ p, p < n → CP p = nI (x p)) (h100 : ∀ p, p < n → x p ≤ 100)
    (hnext : ∃ f, wY_recover_112 post (nI n) (nI c) (nI m) f 0 0 vY IV U TB TS (rl_mix m (fun s => nI (rl_rb st sd rc si ri x s)) ST) SD RC PL SI RI CP KP SL) :
    ∀ (fu s : Nat), m < fu + s → s ≤ m → wY_recover_18 post (nI n) (nI c) (nI m) fu (nI s) vY IV U TB TS (rl_mix s (fun s => nI (rl_rb st sd rc si ri x s)) ST) SD RC PL SI RI CP KP SL := by
  have hB' := hB
  obtain ⟨hW, hIV, hT, hST, hSD, hRC, hSI, hRI⟩ := hB'
  have hW' := hW
  obtain ⟨⟨⟨n2, n4⟩, ⟨c3, c8⟩, ⟨m4, m16⟩⟩, hS, hM, _⟩ := hW'
  intro fu
  induction fu with
  | zero => intro s q1 q2; omega
  | succ fu ih =>
    intro s q1 q2
    by_cases e : m ≤ s
    · have e2 : s = m := by omega
      simp (disch := omega) only [wY_recover_18, e, forall_eq, Nat.le_refl, rl_10, rl_n10, nI_leI, nI_ltI, nI_eq, vp_in_nI, nI_clamp, nI_1, nI_add, rl_lt0, rl_0le, rl_eq0, rl_eq1, rl_eq2, rl_m1, rl_m8, rl_m100, rl_vb0, rl_vb1, true_implies, forall_const, not_true_eq_false, not_false_eq_true, false_implies, and_true, true_and, implies_true, and_self]
      rw [e2]; exact hnext
    · have := ih (s + 1) (by omega) (by omega)
      obtain ⟨t1, t2, t3, t4, t5⟩ := hM.1 s
      have x1' := hx _ t2
      have x2' := hx _ t3
      have x3' := h100 _ t2
      have x4' := h100 _ t3
      have hst : rl_mix s (fun s => nI (rl_rb st sd rc si ri x s)) ST s = nI (st s) := by rw [rl_mix_ge (Nat.le_refl _)]; exact hST s
      have kp : rl_rb st sd rc si ri x s = st s → rl_mix s (fun s => nI (rl_rb st sd rc si ri x s)) ST = rl_mix (s + 1) (fun s => nI (rl_rb st sd rc si ri x s)) ST :=
        fun z => rl_mix_k (show nI (rl_rb st sd rc si ri x s) = ST s by rw [z, hST])
      by_cases z : st s = 0
      · rw [← kp (by unfold rl_rb; rw [if_pos z, z])] at this
        simp (disch := omega) only [wY_recover_18, e, hst, z, forall_eq, Nat.le_refl, rl_10, rl_n10, nI_leI, nI_ltI, nI_eq, vp_in_nI, nI_clamp, nI_1, nI_add, rl_lt0, rl_0le, rl_eq0, rl_eq1, rl_eq2, rl_m1, rl_m8, rl_m100, rl_vb0, rl_vb1, true_implies, forall_const, not_true_eq_false, not_false_eq_true, false_implies, and_true, true_and, implies_true, and_self]
        exact this
      · by_cases a : si s < x (sd s)
        · have a2 : ¬ x (sd s) ≤ si s := by omega
          by_cases l : st s = 2
          · by_cases b : ri s < x (rc s)
            · have b2 : ¬ x (rc s) ≤ ri s := by omega
              rw [← kp (by unfold rl_rb; rw [if_neg z, if_pos a, if_neg (fun w => w.2 b)])] at this
              simp (disch := omega) only [wY_recover_18, e, hst, z, hSD, hSI, hRC, hRI, x1', x2', a, a2, l, b, b2, show ¬ (2 : Nat) = 0 by decide, forall_eq, Nat.le_refl, rl_10, rl_n10, nI_leI, nI_ltI, nI_eq, vp_in_nI, nI_clamp, nI_1, nI_add, rl_lt0, rl_0le, rl_eq0, rl_eq1, rl_eq2, rl_m1, rl_m8, rl_m100, rl_vb0, rl_vb1, true_implies, forall_const, not_true_eq_false, not_false_eq_true, false_implies, and_true, true_and, implies_true, and_self]
              exact this
            · have b2 : x (rc s) ≤ ri s := by omega
              have e1 : (1 : Int32) = nI (rl_rb st sd rc si ri x s) := by
                unfold rl_rb
                rw [if_neg z, if_pos a, if_pos ⟨l, b⟩]
                rfl
              rw [← rl_mix_s (i := s) (a := fun s => nI (rl_rb st sd rc si ri x s)) e1] at this
              simp (disch := omega) only [wY_recover_18, e, hst, z, hSD, hSI, hRC, hRI, x1', x2', a, a2, l, b, b2, show ¬ (2 : Nat) = 0 by decide, forall_eq, Nat.le_refl, rl_10, rl_n10, nI_leI, nI_ltI, nI_eq, vp_in_nI, nI_clamp, nI_1, nI_add, rl_lt0, rl_0le, rl_eq0, rl_eq1, rl_eq2, rl_m1, rl_m8, rl_m100, rl_vb0, rl_vb1, true_implies, forall_const, not_true_eq_false, not_false_eq_true, false_implies, and_true, true_and, implies_true, and_self]
              exact this
          · rw [← kp (by unfold rl_rb; rw [if_neg z, if_pos a, if_neg (fun w => l w.1)])] at this
            simp (disch := omega) only [wY_recover_18, e, hst, z, hSD, hSI, x1', a, a2, l, forall_eq, Nat.le_refl, rl_10, rl_n10, nI_leI, nI_ltI, nI_eq, vp_in_nI, nI_clamp, nI_1, nI_add, rl_lt0, rl_0le, rl_eq0, rl_eq1, rl_eq2, rl_m1, rl_m8, rl_m100, rl_vb0, rl_vb1, true_implies, forall_const, not_true_eq_false, not_false_eq_true, false_implies, and_true, true_and, implies_true, and_self]
            exact this
        · have a2 : x (sd s) ≤ si s := by omega
          have e1 : (0 : Int32) = nI (rl_rb st sd rc si ri x s) := by
            unfold rl_rb
            rw [if_neg z, if_neg a]
            rfl
          rw [← rl_mix_s (i := s) (a := fun s => nI (rl_rb st sd rc si ri x s)) e1] at this
          simp (disch := omega) only [wY_recover_18, e, hst, z, hSD, hSI, x1', a, a2, forall_eq, Nat.le_refl, rl_10, rl_n10, nI_leI, nI_ltI, nI_eq, vp_in_nI, nI_clamp, nI_1, nI_add, rl_lt0, rl_0le, rl_eq0, rl_eq1, rl_eq2, rl_m1, rl_m8, rl_m100, rl_vb0, rl_vb1, true_implies, forall_const, not_true_eq_false, not_false_eq_true, false_implies, and_true, true_and, implies_true, and_self]
          exact this
end
theorem rl_mix_kk {a d : Nat} {A B : Nat → Int32} (h : ∀ q, a ≤ q → q < a + d → A q = B q) : rl_mix a A B = rl_mix (a + d) A B := by
  funext q
  by_cases l : q < a
  · rw [rl_mix_lt l, rl_mix_lt (by omega)]
  · by_cases k : q < a + d
    · rw [rl_mix_ge (by omega), rl_mix_lt k, h q (by omega) k]
    · rw [rl_mix_ge (by omega), rl_mix_ge (by omega)]
section
variable {n c m : Nat} {iv ct st sd rc si ri : Nat → Nat} {g : Nat → Nat → Nat}
variable {vY IV U TB TS ST SD RC PL SI RI CP KP SL : Nat → Int32}
theorem ry_rC {post : Int32 → SY → Prop} {J : Int32 → Int32 → (Nat → Int32) → (Nat → Int32) → (Nat → Int32) → (Nat → Int32) → (Nat → Int32) → (Nat → Int32) → (Nat → Int32) → (Nat → Int32) → (Nat → Int32) → (Nat → Int32) → (Nat → Int32) → (Nat → Int32) → (Nat → Int32) → (Nat → Int32) → Prop} {x2 : Int32} {p y : Nat} {f : Nat → Bool} {x : Nat → Nat} (hp : p < 4) (hy : y ≤ 99) (hcp : CP p = nI y) (hf : f p = true) (hxp : x p = y)
    (hnext : J (x2 + ((1 : Int32) <<< (nI p &&& 31))) (nI (p + 1)) (upd vY p (TS (p * 100 + y))) (upd IV p (nI y)) (upd U p 1) (rl_mix ((p + 1) * 100) (rl_tr f x TB) TB) TS ST SD RC PL SI RI CP KP SL) :
    ∀ (fu i : Nat), 100 < fu + i → i ≤ 100 → wY_recover_138 post J x2 (nI p) (nI n) (nI c) (nI m) fu (nI i) (rl_vi y i (upd vY p (TS (p * 100 + y))) vY) IV U (rl_mix (p * 100 + i) (rl_tr f x TB) TB) TS ST SD RC PL SI RI CP KP SL := by
  intro fu
  induction fu with
  | zero => intro i q1 q2; omega
  | succ fu ih =>
    intro i q1 q2
    by_cases e : 99 < i
    · have e2 : p * 100 + i = (p + 1) * 100 := by omega
      rw [rl_vi_t (by omega), e2]
      simp (disch := omega) only [wY_recover_138, rl_99g, e, hcp, forall_eq, Nat.le_refl, rl_10, rl_n10, nI_leI, nI_ltI, nI_eq, vp_in_nI, nI_clamp, nI_1, nI_add, rl_lt0, rl_0le, rl_eq0, rl_eq1, rl_eq2, rl_m1, rl_m8, rl_m100, rl_vb0, rl_vb1, true_implies, forall_const, not_true_eq_false, not_false_eq_true, false_implies, and_true, true_and, implies_true, and_self]
      exact hnext
    · have := ih (i + 1) (by omega) (by omega)
      have d1 : (p * 100 + i) % 100 = i := by omega
      have d2 : (p * 100 + i) / 100 = p := by omega
      have ea : p * 100 + (i + 1) = (p * 100 + i) + 1 := by omega
      rw [ea] at this
      rcases Nat.lt_trichotomy i y with l | l | l
      · have hk : rl_tr f x TB (p * 100 + i) = TB (p * 100 + i) := by
          unfold rl_tr
          rw [d1, d2, hxp, if_neg (fun z => by omega)]
        have l2 : ¬ i = y := by omega
        have l3 : i ≤ y := by omega
        rw [← rl_mix_k hk, rl_vi_f (by omega)] at this
        rw [rl_vi_f (by omega)]
        simp (disch := omega) only [wY_recover_138, wY_recover_174, rl_99g, e, hcp, l2, l3, forall_eq, Nat.le_refl, rl_10, rl_n10, nI_leI, nI_ltI, nI_eq, vp_in_nI, nI_clamp, nI_1, nI_add, rl_lt0, rl_0le, rl_eq0, rl_eq1, rl_eq2, rl_m1, rl_m8, rl_m100, rl_vb0, rl_vb1, true_implies, forall_const, not_true_eq_false, not_false_eq_true, false_implies, and_true, true_and, implies_true, and_self]
        exact this
      · have hk : rl_tr f x TB (p * 100 + i) = TB (p * 100 + i) := by
          unfold rl_tr
          rw [d1, d2, hxp, if_neg (fun z => by omega)]
        have l3 : i ≤ y := by omega
        rw [← rl_mix_k hk, rl_vi_t (by omega)] at this
        rw [rl_vi_f (by omega)]
        rw [← l] at this hcp
        simp (disch := omega) only [wY_recover_138, wY_recover_174, rl_99g, e, hcp, Nat.le_refl, forall_eq, Nat.le_refl, rl_10, rl_n10, nI_leI, nI_ltI, nI_eq, vp_in_nI, nI_clamp, nI_1, nI_add, rl_lt0, rl_0le, rl_eq0, rl_eq1, rl_eq2, rl_m1, rl_m8, rl_m100, rl_vb0, rl_vb1, true_implies, forall_const, not_true_eq_false, not_false_eq_true, false_implies, and_true, true_and, implies_true, and_self]
        exact this
      · have hk : (0 : Int32) = rl_tr f x TB (p * 100 + i) := by
          unfold rl_tr
          rw [d1, d2, hxp, if_pos ⟨hf, l⟩]
        have l2 : ¬ i = y := by omega
        have l3 : ¬ i ≤ y := by omega
        rw [← rl_mix_s hk, rl_vi_t (by omega)] at this
        rw [rl_vi_t l]
        simp (disch := omega) only [wY_recover_138, wY_recover_174, rl_99g, e, hcp, l2, l3, forall_eq, Nat.le_refl, rl_10, rl_n10, nI_leI, nI_ltI, nI_eq, vp_in_nI, nI_clamp, nI_1, nI_add, rl_lt0, rl_0le, rl_eq0, rl_eq1, rl_eq2, rl_m1, rl_m8, rl_m100, rl_vb0, rl_vb1, true_implies, forall_const, not_true_eq_false, not_false_eq_true, false_implies, and_true, true_and, implies_true, and_self]
        exact this
theorem ry_rB (hB : rl_AY n c m iv ct g st sd rc si ri IV TB ST SD RC SI RI) {post : Int32 → SY → Prop} {L : Nat → Nat} (hx : ∀ p, p < n → CP p = nI (rl_G ct g iv p (L p))) (hle : rl_le n L ct) {ST1 : Nat → Int32}
    (hpost : post (rl_ad (rl_rl ct L) n) (nI n, nI c, nI m, rl_mix n (rl_nf (rl_rl ct L) (fun p => TS (p * 100 + g p (L p))) vY) vY, rl_mix n (rl_nf (rl_rl ct L) (fun p => nI (g p (L p))) IV) IV, rl_mix n (fun _ => 1) U, rl_mix (n * 100) (rl_tr (rl_rl ct L) (fun p => rl_G ct g iv p (L p)) TB) TB, TS, ST1, SD, RC, PL, SI, RI, CP, KP, SL)) :
    ∀ (fu i : Nat), n < fu + i → i ≤ n → wY_recover_112 post (nI n) (nI c) (nI m) fu (rl_ad (rl_rl ct L) i) (nI i)
      (rl_mix i (rl_nf (rl_rl ct L) (fun p => TS (p * 100 + g p (L p))) vY) vY) (rl_mix i (rl_nf (rl_rl ct L) (fun p => nI (g p (L p))) IV) IV) (rl_mix i (fun _ => 1) U) (rl_mix (i * 100) (rl_tr (rl_rl ct L) (fun p => rl_G ct g iv p (L p)) TB) TB) TS ST1 SD RC PL SI RI CP KP SL := by
  have hB' := hB
  obtain ⟨hW, hIV, hT, hST, hSD, hRC, hSI, hRI⟩ := hB'
  have hW' := hW
  obtain ⟨⟨⟨n2, n4⟩, ⟨c3, c8⟩, ⟨m4, m16⟩⟩, hS, hM, _⟩ := hW'
  intro fu
  induction fu with
  | zero => intro i q1 q2; omega
  | succ fu ih =>
    intro i q1 q2
    by_cases e : n ≤ i
    · have e2 : i = n := by omega
      simp (disch := omega) only [wY_recover_112, e, forall_eq, Nat.le_refl, rl_10, rl_n10, nI_leI, nI_ltI, nI_eq, vp_in_nI, nI_clamp, nI_1, nI_add, rl_lt0, rl_0le, rl_eq0, rl_eq1, rl_eq2, rl_m1, rl_m8, rl_m100, rl_vb0, rl_vb1, true_implies, forall_const, not_true_eq_false, not_false_eq_true, false_implies, and_true, true_and, implies_true, and_self]
      rw [e2]; exact hpost
    · have hi : i < n := by omega
      obtain ⟨s1, s2, s3, s4, s5⟩ := hS i hi
      have hG := rl_G_100 hS (L i) hi
      have hLi := hle i hi
      have := ih (i + 1) (by omega) (by omega)
      have hiv : rl_mix i (rl_nf (rl_rl ct L) (fun p => nI (g p (L p))) IV) IV i = nI (iv i) := by rw [rl_mix_ge (Nat.le_refl _)]; exact hIV i
      have hcp := hx i hi
      by_cases a : iv i < rl_G ct g iv i (L i)
      · have hc : ¬ L i < ct i := by
          intro z
          rw [rl_G_in z] at a
          have := s4 _ z
          omega
        have hr : ¬ rl_rl ct L i = true := fun z => hc (of_decide_eq_true z)
        have htb : rl_mix (i * 100) (rl_tr (rl_rl ct L) (fun p => rl_G ct g iv p (L p)) TB) TB = rl_mix ((i + 1) * 100) (rl_tr (rl_rl ct L) (fun p => rl_G ct g iv p (L p)) TB) TB := by
          have h1 : (i + 1) * 100 = i * 100 + 100 := by omega
          rw [h1]
          refine rl_mix_kk (fun q b1 b2 => ?_)
          have h2 : q / 100 = i := by omega
          unfold rl_tr
          rw [h2, if_neg (fun z => hr z.1)]
        rw [rl_ad_f hr, ← rl_mix_k (show rl_nf (rl_rl ct L) (fun p => TS (p * 100 + g p (L p))) vY i = vY i from if_neg hr), ← rl_mix_k (show rl_nf (rl_rl ct L) (fun p => nI (g p (L p))) IV i = IV i from if_neg hr),
          ← htb, ← rl_mix_s (i := i) (a := fun _ => (1 : Int32)) (x := 1) rfl] at this
        simp (disch := omega) only [wY_recover_112, e, hiv, hcp, a, forall_eq, Nat.le_refl, rl_10, rl_n10, nI_leI, nI_ltI, nI_eq, vp_in_nI, nI_clamp, nI_1, nI_add, rl_lt0, rl_0le, rl_eq0, rl_eq1, rl_eq2, rl_m1, rl_m8, rl_m100, rl_vb0, rl_vb1, true_implies, forall_const, not_true_eq_false, not_false_eq_true, false_implies, and_true, true_and, implies_true, and_self]
        exact this
      · have hc : L i < ct i := by
          by_cases z : L i < ct i
          · exact z
          · rw [rl_G_now z] at a; omega
        have hr : rl_rl ct L i = true := decide_eq_true hc
        have hg := s4 _ hc
        rw [rl_ad_t hr, ← rl_mix_s (show TS (i * 100 + g i (L i)) = rl_nf (rl_rl ct L) (fun p => TS (p * 100 + g p (L p))) vY i from (if_pos hr).symm), ← rl_mix_s (show nI (g i (L i)) = rl_nf (rl_rl ct L) (fun p => nI (g p (L p))) IV i from (if_pos hr).symm),
          ← rl_mix_s (i := i) (a := fun _ => (1 : Int32)) (x := 1) rfl] at this
        simp (disch := omega) only [wY_recover_112, e, hiv, hcp, a, forall_eq, Nat.le_refl, rl_10, rl_n10, nI_leI, nI_ltI, nI_eq, vp_in_nI, nI_clamp, nI_1, nI_add, rl_lt0, rl_0le, rl_eq0, rl_eq1, rl_eq2, rl_m1, rl_m8, rl_m100, rl_vb0, rl_vb1, true_implies, forall_const, not_true_eq_false, not_false_eq_true, false_implies, and_true, true_and, implies_true, and_self]
        rw [rl_G_in hc] at hcp
        have h3 := ry_rC (n := n) (c := c) (m := m) (post := post) (f := rl_rl ct L) (x := fun p => rl_G ct g iv p (L p)) (by omega) (by omega) hcp hr (rl_G_in hc) this 101 0 (by omega) (by omega)
        rw [rl_vi_f (by omega)] at h3
        exact ⟨_, h3⟩
theorem ry_recover (hB : rl_AY n c m iv ct g st sd rc si ri IV TB ST SD RC SI RI) {post : Int32 → SY → Prop} {L : Nat → Nat} (hL : rl_IsL n (rl_tp ct (rl_or (rl_dn U) n)) (rl_C m iv ct g st sd rc si ri) L) (h0 : rl_or (rl_dn U) n = 0 → post 0 (nI n, nI c, nI m, vY, IV, U, TB, TS, ST, SD, RC, PL, SI, RI, CP, KP, SL))
    (h1 : ¬ rl_or (rl_dn U) n = 0 → ∀ CP', post (rl_or (rl_rl ct L) n) (nI n, nI c, nI m, rl_mix n (rl_nf (rl_rl ct L) (fun p => TS (p * 100 + g p (L p))) vY) vY, rl_mix n (rl_nf (rl_rl ct L) (fun p => nI (g p (L p))) IV) IV, rl_mix n (fun _ => 1) U, rl_mix (n * 100) (rl_tr (rl_rl ct L) (fun p => rl_G ct g iv p (L p)) TB) TB, TS, rl_mix m (fun s => nI (rl_rb st sd rc si ri (fun p => rl_G ct g iv p (L p)) s)) ST, SD, RC, PL, SI, RI, CP', KP, SL)) :
    wpY_recover post (nI n, nI c, nI m, vY, IV, U, TB, TS, ST, SD, RC, PL, SI, RI, CP, KP, SL) := by
  have hB' := hB
  obtain ⟨hW, hIV, hT, hST, hSD, hRC, hSI, hRI⟩ := hB'
  have hW' := hW
  obtain ⟨⟨⟨n2, n4⟩, ⟨c3, c8⟩, ⟨m4, m16⟩⟩, hS, hM, _⟩ := hW'
  simp only [wpY_recover]
  refine ry_down n2 n4 ?_
  try dsimp only
  by_cases e : rl_or (rl_dn U) n = 0
  · simp (disch := omega) only [e, forall_eq, Nat.le_refl, rl_10, rl_n10, nI_leI, nI_ltI, nI_eq, vp_in_nI, nI_clamp, nI_1, nI_add, rl_lt0, rl_0le, rl_eq0, rl_eq1, rl_eq2, rl_m1, rl_m8, rl_m100, rl_vb0, rl_vb1, true_implies, forall_const, not_true_eq_false, not_false_eq_true, false_implies, and_true, true_and, implies_true, and_self]
    exact h0 e
  · simp (disch := omega) only [e, forall_eq, Nat.le_refl, rl_10, rl_n10, nI_leI, nI_ltI, nI_eq, vp_in_nI, nI_clamp, nI_1, nI_add, rl_lt0, rl_0le, rl_eq0, rl_eq1, rl_eq2, rl_m1, rl_m8, rl_m100, rl_vb0, rl_vb1, true_implies, forall_const, not_true_eq_false, not_false_eq_true, false_implies, and_true, true_and, implies_true, and_self]
    refine ry_line hB hL (fun CP1 r1 => ?_)
    try dsimp only
    have hp := h1 e CP1
    rw [rl_orad _ n2 n4] at hp
    have h2 := ry_rB hB r1 (fun p hp => Nat.le_trans (hL.1 p hp) (rl_tp_le ct _ p)) hp (n + 1) 0 (by omega) (by omega)
    rw [rl_mix_0, rl_mix_0, rl_mix_0, Nat.zero_mul, rl_mix_0] at h2
    have := ry_rA hB (post := post) (CP := CP1) (x := fun p => rl_G ct g iv p (L p)) r1 (fun p hp => rl_G_100 hS _ hp) ⟨_, h2⟩ (m + 1) 0 (by omega) (by omega)
    rw [rl_mix_0] at this
    exact ⟨_, this⟩
end
