section
variable {n c m : Nat} {iv ct st sd rc si ri : Nat → Nat} {g : Nat → Nat → Nat}
variable {vX vY IV U CT NB SV TB TS ST SD RC SI RI : Nat → Int32}
theorem rl_R_check (hR : rl_R n c m iv ct g st sd rc si ri vX vY IV U CT NB SV TB TS ST SD RC SI RI) {p : Nat} (hp : p < n) (h99 : iv p < 99) (hc : ct p < c) (hu : ¬ U p = 0) :
    rl_R n c m (rl_u iv p (iv p + 1)) (rl_u ct p (ct p + 1)) (rl_gC g p (ct p) (iv p + 1)) st sd rc si ri vX vY (upd IV p (nI (iv p + 1))) U (upd CT p (nI (ct p + 1)))
      (upd NB (p * 8 + ct p) (nI (iv p + 1))) (upd SV (p * 8 + ct p) (vX p)) (upd TB (p * 100 + (iv p + 1)) 1) (upd TS (p * 100 + (iv p + 1)) (vY p)) ST SD RC SI RI := by
  obtain ⟨hA, ⟨hT1, hT2, hT3⟩, hU, hV⟩ := hR
  have hA' := hA
  obtain ⟨hW, hIV, hCT, hNB, hST, hSD, hRC, hSI, hRI⟩ := hA'
  have hW' := hW
  obtain ⟨⟨⟨n2, n4⟩, ⟨c3, c8⟩, ⟨m4, m16⟩⟩, hS, hM, hB⟩ := hW'
  have hct : ∀ q, q < n → ct q ≤ 8 := fun q hq => Nat.le_trans (hS q hq).2.1 c8
  refine ⟨⟨rl_W_check hW hp h99 hc, rl_uI hIV p _, rl_uI hCT p _, fun q hq k hk => ?_, hST, hSD, hRC, hSI, hRI⟩, ⟨fun q hq i hi => ?_, fun i hi => ?_, fun q hq k hk => ?_⟩, hU, hV⟩
  · have hq8 := hct q hq
    by_cases e : q = p
    · rw [e] at hk hq8 ⊢
      rw [rl_us] at hk
      by_cases ek : k = ct p
      · rw [ek, pk_us, rl_gC_s]
      · rw [pk_un (by omega), rl_gC_n (fun z => ek z.2)]
        exact hNB p hp k (by omega)
    · rw [rl_un e] at hk
      rw [pk_un (by omega), rl_gC_n (fun z => e z.1)]
      exact hNB q hq k hk
  · obtain ⟨s1, s2, s3, s4, s5⟩ := hS q hq
    by_cases e : q = p
    · rw [e] at s4 ⊢
      rw [rl_us]
      by_cases ei : i = iv p + 1
      · rw [ei, pk_us]
        exact ⟨fun _ => ⟨ct p, by omega, rl_gC_s⟩, fun _ => by decide⟩
      · rw [pk_un (by omega), hT1 p hp i hi]
        constructor
        · rintro ⟨k, hk, ek⟩
          exact ⟨k, by omega, by rw [rl_gC_n (fun z => by omega)]; exact ek⟩
        · rintro ⟨k, hk, ek⟩
          by_cases q2 : k = ct p
          · rw [q2, rl_gC_s] at ek; omega
          · rw [rl_gC_n (fun z => q2 z.2)] at ek
            exact ⟨k, by omega, ek⟩
    · rw [rl_un e, pk_un (by omega), hT1 q hq i hi]
      constructor
      · rintro ⟨k, hk, ek⟩
        exact ⟨k, hk, by rw [rl_gC_n (fun z => e z.1)]; exact ek⟩
      · rintro ⟨k, hk, ek⟩
        rw [rl_gC_n (fun z => e z.1)] at ek
        exact ⟨k, hk, ek⟩
  · rw [pk_un (by omega)]; exact hT2 i hi
  · obtain ⟨s1, s2, s3, s4, s5⟩ := hS q hq
    have hq8 := hct q hq
    by_cases e : q = p
    · rw [e] at hk s4 hq8 ⊢
      rw [rl_us] at hk
      by_cases ek : k = ct p
      · rw [ek, pk_us, rl_gC_s, pk_us]; exact hV p hp hu
      · have hg := s4 k (by omega)
        rw [pk_un (by omega), rl_gC_n (fun z => ek z.2), pk_un (by omega)]
        exact hT3 p hp k (by omega)
    · rw [rl_un e] at hk
      have hg := s4 k hk
      rw [pk_un (by omega), rl_gC_n (fun z => e z.1), pk_un (by omega)]
      exact hT3 q hq k hk
end
section
variable {n c m : Nat} {iv ct st sd rc si ri : Nat → Nat} {g : Nat → Nat → Nat}
variable {vX IV U CT NB SV ST SD RC PL SI RI LN ND SE : Nat → Int32}
theorem rx_empty_l {post : Int32 → Prop} (m16 : m ≤ 16) (hST : ∀ s, ST s = nI (st s)) (h2 : ∀ s, st s ≤ 2) (h1 : ∀ s, s < m → st s = 0 → (∀ j, j < s → ¬ st j = 0) → post (nI s))
    (h0 : (∀ s, s < m → ¬ st s = 0) → post (-4)) : ∀ (fu s : Nat), m < fu + s → s ≤ m → (∀ j, j < s → ¬ st j = 0) → wX_firstEmptySlot_2 post (nI n) (nI c) (nI m) vX IV U CT NB SV ST SD RC PL SI RI LN ND SE fu (nI s) := by
  intro fu
  induction fu with
  | zero => intro s q1 q2; omega
  | succ fu ih =>
    intro s q1 q2 q3
    have h2s := h2 s
    by_cases e : m ≤ s
    · simp (disch := omega) only [wX_firstEmptySlot_2, e, forall_eq, Nat.le_refl, rl_10, rl_n10, nI_leI, nI_ltI, nI_eq, vp_in_nI, nI_clamp, nI_1, nI_add, rl_lt0, rl_0le, rl_eq0, rl_eq1, rl_eq2, rl_m1, rl_m8, rl_m100, rl_vb0, rl_vb1, true_implies, forall_const, not_true_eq_false, not_false_eq_true, false_implies, and_true, true_and, implies_true, and_self]
      exact h0 (fun j hj => q3 j (by omega))
    · by_cases a : st s = 0
      · simp (disch := omega) only [wX_firstEmptySlot_2, e, hST, a, forall_eq, Nat.le_refl, rl_10, rl_n10, nI_leI, nI_ltI, nI_eq, vp_in_nI, nI_clamp, nI_1, nI_add, rl_lt0, rl_0le, rl_eq0, rl_eq1, rl_eq2, rl_m1, rl_m8, rl_m100, rl_vb0, rl_vb1, true_implies, forall_const, not_true_eq_false, not_false_eq_true, false_implies, and_true, true_and, implies_true, and_self]
        exact h1 s (by omega) a q3
      · simp (disch := omega) only [wX_firstEmptySlot_2, e, hST, a, forall_eq, Nat.le_refl, rl_10, rl_n10, nI_leI, nI_ltI, nI_eq, vp_in_nI, nI_clamp, nI_1, nI_add, rl_lt0, rl_0le, rl_eq0, rl_eq1, rl_eq2, rl_m1, rl_m8, rl_m100, rl_vb0, rl_vb1, true_implies, forall_const, not_true_eq_false, not_false_eq_true, false_implies, and_true, true_and, implies_true, and_self]
        refine ih (s + 1) (by omega) (by omega) (fun j hj => ?_)
        by_cases q : j = s
        · rw [q]; exact a
        · exact q3 j (by omega)
theorem rx_empty {post : Int32 → Prop} (m16 : m ≤ 16) (hST : ∀ s, ST s = nI (st s)) (h2 : ∀ s, st s ≤ 2) (h1 : ∀ s, s < m → st s = 0 → (∀ j, j < s → ¬ st j = 0) → post (nI s))
    (h0 : (∀ s, s < m → ¬ st s = 0) → post (-4)) : wpX_firstEmptySlot post (nI n, nI c, nI m, vX, IV, U, CT, NB, SV, ST, SD, RC, PL, SI, RI, LN, ND, SE) := by
  simp only [wpX_firstEmptySlot]
  exact ⟨m + 1, rx_empty_l m16 hST h2 h1 h0 (m + 1) 0 (by omega) (by omega) (fun j hj => absurd hj (by omega))⟩
end
section
variable {n c m : Nat} {iv ct st sd rc si ri : Nat → Nat} {g : Nat → Nat → Nat}
variable {vY IV U TB TS ST SD RC PL SI RI CP KP SL : Nat → Int32}
theorem ry_isStN {post : Int32 → Prop} {x y : Int32} (h : x < 0) (k : post 0) : wpY_isStored post (nI n, nI c, nI m, vY, IV, U, TB, TS, ST, SD, RC, PL, SI, RI, CP, KP, SL) y x := by
  simp only [wpY_isStored, h, forall_eq, Nat.le_refl, rl_10, rl_n10, nI_leI, nI_ltI, nI_eq, vp_in_nI, nI_clamp, nI_1, nI_add, rl_lt0, rl_0le, rl_eq0, rl_eq1, rl_eq2, rl_m1, rl_m8, rl_m100, rl_vb0, rl_vb1, true_implies, forall_const, not_true_eq_false, not_false_eq_true, false_implies, and_true, true_and, implies_true, and_self]
  exact k
theorem ry_isStG {post : Int32 → Prop} {x y : Int32} (h : nI 100 ≤ x) (k : post 0) : wpY_isStored post (nI n, nI c, nI m, vY, IV, U, TB, TS, ST, SD, RC, PL, SI, RI, CP, KP, SL) y x := by
  have h0 : ¬ x < 0 := Int32.not_lt.mpr (Int32.le_trans (by decide) h)
  have h9 : 99 < x := Int32.lt_of_lt_of_le (b := nI 100) (by decide) h
  simp only [wpY_isStored, h0, h9, forall_eq, Nat.le_refl, rl_10, rl_n10, nI_leI, nI_ltI, nI_eq, vp_in_nI, nI_clamp, nI_1, nI_add, rl_lt0, rl_0le, rl_eq0, rl_eq1, rl_eq2, rl_m1, rl_m8, rl_m100, rl_vb0, rl_vb1, true_implies, forall_const, not_true_eq_false, not_false_eq_true, false_implies, and_true, true_and, implies_true, and_self]
  exact k
theorem ry_send_l {post : Int32 → SY → Prop} {p q s0 : Nat} (hp : p < 4) (hIV : ∀ p, IV p = nI (iv p)) (m16 : m ≤ 16) (hST : ∀ s, ST s = nI (st s)) (h2 : ∀ s, st s ≤ 2) (hs0 : s0 < m) (he : st s0 = 0) (hne : ∀ j, j < s0 → ¬ st j = 0)
    (hpost : post (nI s0) (nI n, nI c, nI m, vY, IV, U, TB, TS, upd ST s0 1, upd SD s0 (nI p), upd RC s0 (nI q), upd PL s0 (vY p), upd SI s0 (nI (iv p)), RI, CP, KP, SL)) :
    ∀ (fu s : Nat), m < fu + s → s ≤ s0 → wY_send_37 post (nI p) (nI q) (nI n) (nI c) (nI m) vY IV U TB TS ST SD RC PL SI RI CP KP SL fu (nI s) := by
  intro fu
  induction fu with
  | zero => intro s q1 q2; omega
  | succ fu ih =>
    intro s q1 q2
    have h2s := h2 s
    have e : ¬ m ≤ s := by omega
    by_cases a : s = s0
    · rw [a]
      have e' : ¬ m ≤ s0 := by omega
      simp (disch := omega) only [wY_send_37, e', hST, he, hIV, forall_eq, Nat.le_refl, rl_10, rl_n10, nI_leI, nI_ltI, nI_eq, vp_in_nI, nI_clamp, nI_1, nI_add, rl_lt0, rl_0le, rl_eq0, rl_eq1, rl_eq2, rl_m1, rl_m8, rl_m100, rl_vb0, rl_vb1, true_implies, forall_const, not_true_eq_false, not_false_eq_true, false_implies, and_true, true_and, implies_true, and_self]
      exact hpost
    · have b := hne s (by omega)
      simp (disch := omega) only [wY_send_37, e, hST, b, forall_eq, Nat.le_refl, rl_10, rl_n10, nI_leI, nI_ltI, nI_eq, vp_in_nI, nI_clamp, nI_1, nI_add, rl_lt0, rl_0le, rl_eq0, rl_eq1, rl_eq2, rl_m1, rl_m8, rl_m100, rl_vb0, rl_vb1, true_implies, forall_const, not_true_eq_false, not_false_eq_true, false_implies, and_true, true_and, implies_true, and_self]
      exact ih (s + 1) (by omega) (by omega)
theorem ry_sendF_l {post : Int32 → SY → Prop} {x1 x2 : Int32} (m16 : m ≤ 16) (hST : ∀ s, ST s = nI (st s)) (h2 : ∀ s, st s ≤ 2) (hne : ∀ j, j < m → ¬ st j = 0) (hpost : post (-3) (nI n, nI c, nI m, vY, IV, U, TB, TS, ST, SD, RC, PL, SI, RI, CP, KP, SL)) :
    ∀ (fu s : Nat), m < fu + s → s ≤ m → wY_send_37 post x1 x2 (nI n) (nI c) (nI m) vY IV U TB TS ST SD RC PL SI RI CP KP SL fu (nI s) := by
  intro fu
  induction fu with
  | zero => intro s q1 q2; omega
  | succ fu ih =>
    intro s q1 q2
    have h2s := h2 s
    by_cases e : m ≤ s
    · simp (disch := omega) only [wY_send_37, e, forall_eq, Nat.le_refl, rl_10, rl_n10, nI_leI, nI_ltI, nI_eq, vp_in_nI, nI_clamp, nI_1, nI_add, rl_lt0, rl_0le, rl_eq0, rl_eq1, rl_eq2, rl_m1, rl_m8, rl_m100, rl_vb0, rl_vb1, true_implies, forall_const, not_true_eq_false, not_false_eq_true, false_implies, and_true, true_and, implies_true, and_self]
      exact hpost
    · have b := hne s (by omega)
      simp (disch := omega) only [wY_send_37, e, hST, b, forall_eq, Nat.le_refl, rl_10, rl_n10, nI_leI, nI_ltI, nI_eq, vp_in_nI, nI_clamp, nI_1, nI_add, rl_lt0, rl_0le, rl_eq0, rl_eq1, rl_eq2, rl_m1, rl_m8, rl_m100, rl_vb0, rl_vb1, true_implies, forall_const, not_true_eq_false, not_false_eq_true, false_implies, and_true, true_and, implies_true, and_self]
      exact ih (s + 1) (by omega) (by omega)
theorem ry_chk_l (hB : rl_AY n c m iv ct g st sd rc si ri IV TB ST SD RC SI RI) {post : Int32 → SY → Prop} {p : Nat} (hp : p < n) (h99 : iv p < 99)
    (h1 : ct p < c → post (nI (iv p + 1)) (nI n, nI c, nI m, vY, upd IV p (nI (iv p + 1)), U, upd TB (p * 100 + (iv p + 1)) 1, upd TS (p * 100 + (iv p + 1)) (vY p), ST, SD, RC, PL, SI, RI, CP, KP, SL)) (h0 : ¬ ct p < c → post (-3) (nI n, nI c, nI m, vY, IV, U, TB, TS, ST, SD, RC, PL, SI, RI, CP, KP, SL)) :
    ∀ (fu i : Nat), 100 < fu + i → i ≤ 100 → wY_checkpoint_40 post (nI p) (nI n) (nI c) (nI m) vY IV U TB TS ST SD RC PL SI RI CP KP SL fu (nI (rl_cn (fun i => decide (¬ TB (p * 100 + i) = 0)) i)) (nI i) := by
  have hB' := hB
  obtain ⟨hW, hIV, hT, hST, hSD, hRC, hSI, hRI⟩ := hB'
  have hW' := hW
  obtain ⟨⟨⟨n2, n4⟩, ⟨c3, c8⟩, ⟨m4, m16⟩⟩, hS, hM, _⟩ := hW'
  obtain ⟨s1, s2, s3, s4, s5⟩ := hS p hp
  have hcn := rl_cntS hS hp (hT p hp)
  intro fu
  induction fu with
  | zero => intro i q1 q2; omega
  | succ fu ih =>
    intro i q1 q2
    by_cases e : 99 < i
    · have e2 : i = 100 := by omega
      rw [e2, hcn]
      rw [e2] at e
      by_cases a : ct p < c
      · simp (disch := omega) only [wY_checkpoint_40, rl_99g, e, a, hIV, pk_us, forall_eq, Nat.le_refl, rl_10, rl_n10, nI_leI, nI_ltI, nI_eq, vp_in_nI, nI_clamp, nI_1, nI_add, rl_lt0, rl_0le, rl_eq0, rl_eq1, rl_eq2, rl_m1, rl_m8, rl_m100, rl_vb0, rl_vb1, true_implies, forall_const, not_true_eq_false, not_false_eq_true, false_implies, and_true, true_and, implies_true, and_self]
        exact h1 a
      · simp (disch := omega) only [wY_checkpoint_40, rl_99g, e, a, forall_eq, Nat.le_refl, rl_10, rl_n10, nI_leI, nI_ltI, nI_eq, vp_in_nI, nI_clamp, nI_1, nI_add, rl_lt0, rl_0le, rl_eq0, rl_eq1, rl_eq2, rl_m1, rl_m8, rl_m100, rl_vb0, rl_vb1, true_implies, forall_const, not_true_eq_false, not_false_eq_true, false_implies, and_true, true_and, implies_true, and_self]
        exact h0 a
    · have := ih (i + 1) (by omega) (by omega)
      have hle := rl_cn_le (fun i => decide (¬ TB (p * 100 + i) = 0)) i
      by_cases a : TB (p * 100 + i) = 0
      · rw [rl_cn_f (fun z => (of_decide_eq_true z) a)] at this
        simp (disch := omega) only [wY_checkpoint_40, rl_99g, e, a, forall_eq, Nat.le_refl, rl_10, rl_n10, nI_leI, nI_ltI, nI_eq, vp_in_nI, nI_clamp, nI_1, nI_add, rl_lt0, rl_0le, rl_eq0, rl_eq1, rl_eq2, rl_m1, rl_m8, rl_m100, rl_vb0, rl_vb1, true_implies, forall_const, not_true_eq_false, not_false_eq_true, false_implies, and_true, true_and, implies_true, and_self]
        exact this
      · rw [rl_cn_t (decide_eq_true a)] at this
        simp (disch := omega) only [wY_checkpoint_40, rl_99g, e, a, forall_eq, Nat.le_refl, rl_10, rl_n10, nI_leI, nI_ltI, nI_eq, vp_in_nI, nI_clamp, nI_1, nI_add, rl_lt0, rl_0le, rl_eq0, rl_eq1, rl_eq2, rl_m1, rl_m8, rl_m100, rl_vb0, rl_vb1, true_implies, forall_const, not_true_eq_false, not_false_eq_true, false_implies, and_true, true_and, implies_true, and_self]
        exact this
theorem ry_cnum_l (hB : rl_AY n c m iv ct g st sd rc si ri IV TB ST SD RC SI RI) {post : Int32 → Prop} {p : Nat} (hp : p < n) {x : Int32} (h1 : ∀ j, j < ct p → x = nI j → post (nI (g p j))) (h0 : (∀ j, j < ct p → ¬ x = nI j) → post (-4)) :
    ∀ (fu i : Nat), 100 < fu + i → i ≤ 100 → (∀ j, j < ct p → g p j < i → ¬ x = nI j) → wY_checkpointNumber_15 post (nI p) x (nI n) (nI c) (nI m) vY IV U TB TS ST SD RC PL SI RI CP KP SL fu (nI (rl_cn (fun i => decide (¬ TB (p * 100 + i) = 0)) i)) (nI i) := by
  have hB' := hB
  obtain ⟨hW, hIV, hT, hST, hSD, hRC, hSI, hRI⟩ := hB'
  have hW' := hW
  obtain ⟨⟨⟨n2, n4⟩, ⟨c3, c8⟩, ⟨m4, m16⟩⟩, hS, hM, _⟩ := hW'
  obtain ⟨s1, s2, s3, s4, s5⟩ := hS p hp
  intro fu
  induction fu with
  | zero => intro i q1 q2; omega
  | succ fu ih =>
    intro i q1 q2 q3
    by_cases e : 99 < i
    · simp (disch := omega) only [wY_checkpointNumber_15, rl_99g, e, forall_eq, Nat.le_refl, rl_10, rl_n10, nI_leI, nI_ltI, nI_eq, vp_in_nI, nI_clamp, nI_1, nI_add, rl_lt0, rl_0le, rl_eq0, rl_eq1, rl_eq2, rl_m1, rl_m8, rl_m100, rl_vb0, rl_vb1, true_implies, forall_const, not_true_eq_false, not_false_eq_true, false_implies, and_true, true_and, implies_true, and_self]
      exact h0 (fun j hj => q3 j hj (by have := s4 j hj; omega))
    · by_cases a : TB (p * 100 + i) = 0
      · have := ih (i + 1) (by omega) (by omega) (fun j hj hg => ?_)
        · rw [rl_cn_f (fun z => (of_decide_eq_true z) a)] at this
          simp (disch := omega) only [wY_checkpointNumber_15, rl_99g, e, a, forall_eq, Nat.le_refl, rl_10, rl_n10, nI_leI, nI_ltI, nI_eq, vp_in_nI, nI_clamp, nI_1, nI_add, rl_lt0, rl_0le, rl_eq0, rl_eq1, rl_eq2, rl_m1, rl_m8, rl_m100, rl_vb0, rl_vb1, true_implies, forall_const, not_true_eq_false, not_false_eq_true, false_implies, and_true, true_and, implies_true, and_self]
          exact this
        · by_cases q : g p j = i
          · exact absurd a ((hT p hp i (by omega)).mpr ⟨j, hj, q⟩)
          · exact q3 j hj (by omega)
      · obtain ⟨j, hj, ej⟩ := (hT p hp i (by omega)).mp a
        have hcn := rl_cntB hS hp hj (hT p hp)
        rw [ej] at hcn
        by_cases b : nI j = x
        · rw [hcn]
          simp (disch := omega) only [wY_checkpointNumber_15, rl_99g, e, a, b, forall_eq, Nat.le_refl, rl_10, rl_n10, nI_leI, nI_ltI, nI_eq, vp_in_nI, nI_clamp, nI_1, nI_add, rl_lt0, rl_0le, rl_eq0, rl_eq1, rl_eq2, rl_m1, rl_m8, rl_m100, rl_vb0, rl_vb1, true_implies, forall_const, not_true_eq_false, not_false_eq_true, false_implies, and_true, true_and, implies_true, and_self]
          rw [← ej]
          exact h1 j hj b.symm
        · have := ih (i + 1) (by omega) (by omega) (fun j2 hj2 hg => ?_)
          · rw [rl_cn_t (decide_eq_true a), hcn] at this
            rw [hcn]
            simp (disch := omega) only [wY_checkpointNumber_15, rl_99g, e, a, b, forall_eq, Nat.le_refl, rl_10, rl_n10, nI_leI, nI_ltI, nI_eq, vp_in_nI, nI_clamp, nI_1, nI_add, rl_lt0, rl_0le, rl_eq0, rl_eq1, rl_eq2, rl_m1, rl_m8, rl_m100, rl_vb0, rl_vb1, true_implies, forall_const, not_true_eq_false, not_false_eq_true, false_implies, and_true, true_and, implies_true, and_self]
            exact this
          · by_cases q : g p j2 = i
            · have e3 : j2 = j := by
                rcases Nat.lt_trichotomy j2 j with z | z | z
                · have := s3 _ _ z hj; omega
                · exact z
                · have := s3 _ _ z hj2; omega
              rw [e3]
              exact fun z => b z.symm
            · exact q3 j2 hj2 (by omega)
end
