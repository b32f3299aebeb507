theorem bq_1 : ∀ i, i < 32 → bt 1 i = decide (i = 0) := by decide +kernel
theorem bq_and1 (y : Int32) : (y &&& 1) = 0 ↔ bt y 0 = false := by
  constructor
  · intro h
    have h1 : bt (y &&& 1) 0 = bt 0 0 := by rw [h]
    rw [b_and, b_0, bq_1 0 (by omega)] at h1
    simpa using h1
  · intro h
    refine b_ext (fun i hi => ?_)
    rw [b_and, b_0, bq_1 i hi]
    by_cases e : i = 0
    · rw [e, h]; rfl
    · simp [e]
theorem bq_shr (x : Int32) {p : Nat} (hp : p < 32) : ((x >>> (nI p &&& 31)) &&& 1) = 0 ↔ bt x p = false := by
  rw [bq_and1, b_sshr p hp x (i := 0) (by omega), if_pos (by omega), Nat.add_zero]
theorem bq_shl1 {p i : Nat} (hp : p < 32) (hi : i < 32) : bt ((1 : Int32) <<< (nI p &&& 31)) i = decide (i = p) := by
  rw [b_shl p hp 1 hi]
  by_cases l : p ≤ i
  · rw [bq_1 _ (by omega)]
    by_cases e : i = p
    · have : i - p = 0 := by omega
      simp [l, e]
    · have : ¬ i - p = 0 := by omega
      simp [this, e]
  · have e : ¬ i = p := by omega
    simp [l, e]
theorem bq_shl (x : Int32) {p : Nat} (hp : p < 32) : (x &&& ((1 : Int32) <<< (nI p &&& 31))) = 0 ↔ bt x p = false := by
  constructor
  · intro h
    have h1 : bt (x &&& ((1 : Int32) <<< (nI p &&& 31))) p = bt 0 p := by rw [h]
    rw [b_and, b_0, bq_shl1 hp hp] at h1
    simpa using h1
  · intro h
    refine b_ext (fun i hi => ?_)
    rw [b_and, b_0, bq_shl1 hp hi]
    by_cases e : i = p
    · rw [e, h]; rfl
    · simp [e]
theorem wl_nib {post : Int32 → Prop} {u : St0} {h : Int64} {i : Nat} (hi : i < 16) (k : post (nI (nk_v h i))) : wpL_nib post u h (nI i) := by
  unfold wpL_nib
  rw [nk_nib h hi]
  exact k
theorem wl_set {post : Int64 → Prop} {u : St0} {h : Int64} {i v : Nat} (hi : i < 16) (hv : v < 16) (k : ∀ z, (∀ j, j < 16 → nk_v z j = if j = i then v else nk_v h j) → post z) : wpL_set post u h (nI i) (nI v) :=
  k _ (fun j hj => nk_set h hi hv hj)
theorem wl_keep {post : Int64 → Prop} {u : St0} {h : Int64} {x : Nat} (hx : x < 16) (k : ∀ z, (∀ j, j < 16 → nk_v z j = if j < x then nk_v h j else 0) → post z) : wpL_keep post u h (nI x) :=
  k _ (fun j hj => nk_keep h hx hj)
theorem wl_cut_l {post : Int32 → Prop} {h : Int64} {xs xr : Nat} (hxs : xs < 16) (hxr : xr < 16) (k : ∀ c, c ≤ xr → (∀ j, j < c → nk_v h j ≤ xs) → (c < xr → xs < nk_v h c) → post (nI c)) :
    ∀ (fu j : Nat), xr < fu + j → j ≤ xr → (∀ i, i < j → nk_v h i ≤ xs) → wL_cut_3 post h (nI xs) (nI xr) fu (nI j) := by
  intro fu
  induction fu with
  | zero => intro j q1 q2; omega
  | succ fu ih =>
    intro j q1 q2 q3
    by_cases e : xr ≤ j
    · have e2 : xr = j := by omega
      simp (disch := omega) only [wL_cut_3, e, forall_eq, Nat.le_refl, rl_10, rl_n10, nI_leI, nI_ltI, nI_eq, vp_in_nI, nI_clamp, nI_1, nI_add, rl_lt0, rl_0le, rl_eq0, rl_eq1, rl_eq2, rl_m1, rl_m8, rl_m100, rl_vb0, rl_vb1, true_implies, forall_const, not_true_eq_false, not_false_eq_true, false_implies, and_true, true_and, implies_true, and_self]
      exact k xr (Nat.le_refl _) (by rw [e2]; exact q3) (fun z => absurd z (by omega))
    · simp (disch := omega) only [wL_cut_3, e, forall_eq, Nat.le_refl, rl_10, rl_n10, nI_leI, nI_ltI, nI_eq, vp_in_nI, nI_clamp, nI_1, nI_add, rl_lt0, rl_0le, rl_eq0, rl_eq1, rl_eq2, rl_m1, rl_m8, rl_m100, rl_vb0, rl_vb1, true_implies, forall_const, not_true_eq_false, not_false_eq_true, false_implies, and_true, true_and, implies_true, and_self]
      refine wl_nib (by omega) ?_
      have hl := nk_lt h j
      by_cases l : nk_v h j ≤ xs
      · simp (disch := omega) only [l, forall_eq, Nat.le_refl, rl_10, rl_n10, nI_leI, nI_ltI, nI_eq, vp_in_nI, nI_clamp, nI_1, nI_add, rl_lt0, rl_0le, rl_eq0, rl_eq1, rl_eq2, rl_m1, rl_m8, rl_m100, rl_vb0, rl_vb1, true_implies, forall_const, not_true_eq_false, not_false_eq_true, false_implies, and_true, true_and, implies_true, and_self]
        refine ih (j + 1) (by omega) (by omega) (fun i hi => ?_)
        by_cases q : i = j
        · rw [q]; exact l
        · exact q3 i (by omega)
      · simp (disch := omega) only [l, forall_eq, Nat.le_refl, rl_10, rl_n10, nI_leI, nI_ltI, nI_eq, vp_in_nI, nI_clamp, nI_1, nI_add, rl_lt0, rl_0le, rl_eq0, rl_eq1, rl_eq2, rl_m1, rl_m8, rl_m100, rl_vb0, rl_vb1, true_implies, forall_const, not_true_eq_false, not_false_eq_true, false_implies, and_true, true_and, implies_true, and_self]
        exact k j (by omega) q3 (fun _ => by omega)
theorem wl_cut {post : Int32 → Prop} {u : St0} {h : Int64} {xs xr : Nat} (hxs : xs < 16) (hxr : xr < 16) (k : ∀ c, c ≤ xr → (∀ j, j < c → nk_v h j ≤ xs) → (c < xr → xs < nk_v h c) → post (nI c)) :
    wpL_cut post u h (nI xs) (nI xr) :=
  ⟨xr + 1, wl_cut_l hxs hxr k (xr + 1) 0 (by omega) (by omega) (fun i hi => absurd hi (by omega))⟩
/-- a cut stays above the line -/
theorem rq_cut {H : Nat → Nat → Nat → Nat} {M : Nat → Nat} (hM : rq_C H M) {h : Int64} {r s xs xr c : Nat} (hr : r < 4) (hs : s < 4) (hrs : r ≠ s) (hh : ∀ j, j < 16 → nk_v h j = H r s j) (h16 : xr < 16)
    (m1 : M r ≤ xr) (m2 : M s ≤ xs) (hc : c < xr → xs < nk_v h c) : M r ≤ c := by
  apply Classical.byContradiction
  intro z
  have h1 := hc (by omega)
  rw [hh c (by omega)] at h1
  have h2 := hM r hr s hs hrs c (by omega)
  omega
def rq_v4 (a b c d : Nat) : Nat → Nat := fun p => if p = 0 then a else if p = 1 then b else if p = 2 then c else d
theorem rq_v4C {H : Nat → Nat → Nat → Nat} {a b c d : Nat} (h01 : ∀ j, j < a → H 0 1 j ≤ b) (h02 : ∀ j, j < a → H 0 2 j ≤ c) (h03 : ∀ j, j < a → H 0 3 j ≤ d)
    (h10 : ∀ j, j < b → H 1 0 j ≤ a) (h12 : ∀ j, j < b → H 1 2 j ≤ c) (h13 : ∀ j, j < b → H 1 3 j ≤ d)
    (h20 : ∀ j, j < c → H 2 0 j ≤ a) (h21 : ∀ j, j < c → H 2 1 j ≤ b) (h23 : ∀ j, j < c → H 2 3 j ≤ d)
    (h30 : ∀ j, j < d → H 3 0 j ≤ a) (h31 : ∀ j, j < d → H 3 1 j ≤ b) (h32 : ∀ j, j < d → H 3 2 j ≤ c) : rq_C H (rq_v4 a b c d) := by
  intro r hr s hs hrs j hj
  have e1 : r = 0 ∨ r = 1 ∨ r = 2 ∨ r = 3 := by omega
  have e2 : s = 0 ∨ s = 1 ∨ s = 2 ∨ s = 3 := by omega
  rcases e1 with e | e | e | e <;> subst e <;> rcases e2 with e | e | e | e <;> subst e
  · exact absurd rfl hrs
  · exact h01 j hj
  · exact h02 j hj
  · exact h03 j hj
  · exact h10 j hj
  · exact absurd rfl hrs
  · exact h12 j hj
  · exact h13 j hj
  · exact h20 j hj
  · exact h21 j hj
  · exact absurd rfl hrs
  · exact h23 j hj
  · exact h30 j hj
  · exact h31 j hj
  · exact h32 j hj
  · exact absurd rfl hrs
/-- the twelve longs hold H -/
def rq_Hs (H : Nat → Nat → Nat → Nat) (a1 a2 a3 b0 b2 b3 c0 c1 c3 d0 d1 d2 : Int64) : Prop :=
  ∀ j, j < 16 → nk_v a1 j = H 0 1 j ∧ nk_v a2 j = H 0 2 j ∧ nk_v a3 j = H 0 3 j ∧ nk_v b0 j = H 1 0 j ∧ nk_v b2 j = H 1 2 j ∧ nk_v b3 j = H 1 3 j ∧
    nk_v c0 j = H 2 0 j ∧ nk_v c1 j = H 2 1 j ∧ nk_v c3 j = H 2 3 j ∧ nk_v d0 j = H 3 0 j ∧ nk_v d1 j = H 3 1 j ∧ nk_v d2 j = H 3 2 j
theorem wl_line_l {post : Int64 → Prop} {H : Nat → Nat → Nat → Nat} {M y0 : Nat → Nat} {a1 a2 a3 b0 b2 b3 c0 c1 c3 d0 d1 d2 : Int64} (hM : rl_IsL 4 y0 (rq_C H) M) (hH : rq_Hs H a1 a2 a3 b0 b2 b3 c0 c1 c3 d0 d1 d2)
    (h15 : ∀ p, p < 4 → y0 p < 16) (hpost : ∀ z, (∀ p, p < 4 → nk_v z p = M p) → post z) :
    ∀ (fu t a b c d : Nat), 64 < fu + t → a ≤ y0 0 → b ≤ y0 1 → c ≤ y0 2 → d ≤ y0 3 → M 0 ≤ a → M 1 ≤ b → M 2 ≤ c → M 3 ≤ d → a + b + c + d + t ≤ 60 →
      wL_line_31 post a1 a2 a3 b0 b2 b3 c0 c1 c3 d0 d1 d2 fu (nI a) (nI b) (nI c) (nI d) (nI t) := by
  have y0' := h15 0 (by omega)
  have y1' := h15 1 (by omega)
  have y2' := h15 2 (by omega)
  have y3' := h15 3 (by omega)
  intro fu
  induction fu with
  | zero => intro t a b c d q1 q2 q3 q4 q5 q6 q7 q8 q9 q10; omega
  | succ fu ih =>
    intro t a b c d q1 q2 q3 q4 q5 q6 q7 q8 q9 q10
    have e64 : ¬ (64 : Int32) ≤ nI t := nI_ge (b := 64) (by omega) (by omega)
    simp (disch := omega) only [wL_line_31, e64, forall_eq, Nat.le_refl, rl_10, rl_n10, nI_leI, nI_ltI, nI_eq, vp_in_nI, nI_clamp, nI_1, nI_add, rl_lt0, rl_0le, rl_eq0, rl_eq1, rl_eq2, rl_m1, rl_m8, rl_m100, rl_vb0, rl_vb1, true_implies, forall_const, not_true_eq_false, not_false_eq_true, false_implies, and_true, true_and, implies_true, and_self]
    refine wl_cut (by omega) (by omega) (fun u7 k7 l7 n7 => ?_)
    have m7 := rq_cut hM.2.1 (r := 0) (s := 3) (by omega) (by omega) (by omega) (fun j hj => (hH j hj).2.2.1) (by omega) q6 q9 n7
    refine wl_cut (by omega) (by omega) (fun u8 k8 l8 n8 => ?_)
    have m8 := rq_cut hM.2.1 (r := 0) (s := 2) (by omega) (by omega) (by omega) (fun j hj => (hH j hj).2.1) (by omega) m7 q8 n8
    refine wl_cut (by omega) (by omega) (fun u9 k9 l9 n9 => ?_)
    have m9 := rq_cut hM.2.1 (r := 0) (s := 1) (by omega) (by omega) (by omega) (fun j hj => (hH j hj).1) (by omega) m8 q7 n9
    refine wl_cut (by omega) (by omega) (fun u10 k10 l10 n10 => ?_)
    have m10 := rq_cut hM.2.1 (r := 1) (s := 3) (by omega) (by omega) (by omega) (fun j hj => (hH j hj).2.2.2.2.2.1) (by omega) q7 q9 n10
    refine wl_cut (by omega) (by omega) (fun u11 k11 l11 n11 => ?_)
    have m11 := rq_cut hM.2.1 (r := 1) (s := 2) (by omega) (by omega) (by omega) (fun j hj => (hH j hj).2.2.2.2.1) (by omega) m10 q8 n11
    refine wl_cut (by omega) (by omega) (fun u12 k12 l12 n12 => ?_)
    have m12 := rq_cut hM.2.1 (r := 1) (s := 0) (by omega) (by omega) (by omega) (fun j hj => (hH j hj).2.2.2.1) (by omega) m11 m9 n12
    refine wl_cut (by omega) (by omega) (fun u13 k13 l13 n13 => ?_)
    have m13 := rq_cut hM.2.1 (r := 2) (s := 3) (by omega) (by omega) (by omega) (fun j hj => (hH j hj).2.2.2.2.2.2.2.2.1) (by omega) q8 q9 n13
    refine wl_cut (by omega) (by omega) (fun u14 k14 l14 n14 => ?_)
    have m14 := rq_cut hM.2.1 (r := 2) (s := 1) (by omega) (by omega) (by omega) (fun j hj => (hH j hj).2.2.2.2.2.2.2.1) (by omega) m13 m12 n14
    refine wl_cut (by omega) (by omega) (fun u15 k15 l15 n15 => ?_)
    have m15 := rq_cut hM.2.1 (r := 2) (s := 0) (by omega) (by omega) (by omega) (fun j hj => (hH j hj).2.2.2.2.2.2.1) (by omega) m14 m9 n15
    refine wl_cut (by omega) (by omega) (fun u16 k16 l16 n16 => ?_)
    have m16 := rq_cut hM.2.1 (r := 3) (s := 2) (by omega) (by omega) (by omega) (fun j hj => (hH j hj).2.2.2.2.2.2.2.2.2.2.2) (by omega) q9 m15 n16
    refine wl_cut (by omega) (by omega) (fun u17 k17 l17 n17 => ?_)
    have m17 := rq_cut hM.2.1 (r := 3) (s := 1) (by omega) (by omega) (by omega) (fun j hj => (hH j hj).2.2.2.2.2.2.2.2.2.2.1) (by omega) m16 m12 n17
    refine wl_cut (by omega) (by omega) (fun u18 k18 l18 n18 => ?_)
    have m18 := rq_cut hM.2.1 (r := 3) (s := 0) (by omega) (by omega) (by omega) (fun j hj => (hH j hj).2.2.2.2.2.2.2.2.2.1) (by omega) m17 m9 n18
    by_cases e : u9 + u12 + u15 + u18 = a + b + c + d
    · have ea : u9 = a := by omega
      have eb : u12 = b := by omega
      have ec : u15 = c := by omega
      have ed : u18 = d := by omega
      have hC : rq_C H (rq_v4 a b c d) := by
        refine rq_v4C (fun j hj => ?_) (fun j hj => ?_) (fun j hj => ?_) (fun j hj => ?_) (fun j hj => ?_) (fun j hj => ?_) (fun j hj => ?_) (fun j hj => ?_) (fun j hj => ?_) (fun j hj => ?_) (fun j hj => ?_) (fun j hj => ?_)
        · have := l9 j (by omega); rw [(hH j (by omega)).1] at this; exact this
        · have := l8 j (by omega); rw [(hH j (by omega)).2.1] at this; exact this
        · have := l7 j (by omega); rw [(hH j (by omega)).2.2.1] at this; exact this
        · have := l12 j (by omega); rw [(hH j (by omega)).2.2.2.1] at this; omega
        · have := l11 j (by omega); rw [(hH j (by omega)).2.2.2.2.1] at this; exact this
        · have := l10 j (by omega); rw [(hH j (by omega)).2.2.2.2.2.1] at this; exact this
        · have := l15 j (by omega); rw [(hH j (by omega)).2.2.2.2.2.2.1] at this; omega
        · have := l14 j (by omega); rw [(hH j (by omega)).2.2.2.2.2.2.2.1] at this; omega
        · have := l13 j (by omega); rw [(hH j (by omega)).2.2.2.2.2.2.2.2.1] at this; exact this
        · have := l18 j (by omega); rw [(hH j (by omega)).2.2.2.2.2.2.2.2.2.1] at this; omega
        · have := l17 j (by omega); rw [(hH j (by omega)).2.2.2.2.2.2.2.2.2.2.1] at this; omega
        · have := l16 j (by omega); rw [(hH j (by omega)).2.2.2.2.2.2.2.2.2.2.2] at this; omega
      have hle := hM.2.2 (rq_v4 a b c d) (fun p hp => ?_) hC
      · have x0 : a ≤ M 0 := hle 0 (by omega)
        have x1 : b ≤ M 1 := hle 1 (by omega)
        have x2 : c ≤ M 2 := hle 2 (by omega)
        have x3 : d ≤ M 3 := hle 3 (by omega)
        obtain ⟨z, ez, z0, z1, z2, z3⟩ := nk_pack (a := u9) (b := u12) (c := u15) (d := u18) (by omega) (by omega) (by omega) (by omega)
        simp (disch := omega) only [e, wL_line_175, forall_eq, Nat.le_refl, rl_10, rl_n10, nI_leI, nI_ltI, nI_eq, vp_in_nI, nI_clamp, nI_1, nI_add, rl_lt0, rl_0le, rl_eq0, rl_eq1, rl_eq2, rl_m1, rl_m8, rl_m100, rl_vb0, rl_vb1, true_implies, forall_const, not_true_eq_false, not_false_eq_true, false_implies, and_true, true_and, implies_true, and_self]
        rw [ez]
        refine hpost z (fun p hp => ?_)
        have e1 : p = 0 ∨ p = 1 ∨ p = 2 ∨ p = 3 := by omega
        rcases e1 with e | e | e | e <;> subst e <;> omega
      · have e1 : p = 0 ∨ p = 1 ∨ p = 2 ∨ p = 3 := by omega
        rcases e1 with e | e | e | e <;> subst e
        · exact q2
        · exact q3
        · exact q4
        · exact q5
    · simp (disch := omega) only [e, forall_eq, Nat.le_refl, rl_10, rl_n10, nI_leI, nI_ltI, nI_eq, vp_in_nI, nI_clamp, nI_1, nI_add, rl_lt0, rl_0le, rl_eq0, rl_eq1, rl_eq2, rl_m1, rl_m8, rl_m100, rl_vb0, rl_vb1, true_implies, forall_const, not_true_eq_false, not_false_eq_true, false_implies, and_true, true_and, implies_true, and_self]
      exact ih (t + 1) u9 u12 u15 u18 (by omega) (by omega) (by omega) (by omega) (by omega) m9 m12 m15 m18 (by omega)
theorem wl_line {post : Int64 → Prop} {u : St0} {x : Int64} {H : Nat → Nat → Nat → Nat} {M : Nat → Nat} {a1 a2 a3 b0 b2 b3 c0 c1 c3 d0 d1 d2 : Int64} {y0 : Nat → Nat} (hM : rl_IsL 4 y0 (rq_C H) M)
    (hH : rq_Hs H a1 a2 a3 b0 b2 b3 c0 c1 c3 d0 d1 d2) (hx : ∀ p, p < 4 → nk_v x p = y0 p) (hpost : ∀ z, (∀ p, p < 4 → nk_v z p = M p) → post z) :
    wpL_line post u x a1 a2 a3 b0 b2 b3 c0 c1 c3 d0 d1 d2 := by
  have h15 : ∀ p, p < 4 → y0 p < 16 := fun p hp => by rw [← hx p hp]; exact nk_lt x p
  have y0' := h15 0 (by omega)
  have y1' := h15 1 (by omega)
  have y2' := h15 2 (by omega)
  have y3' := h15 3 (by omega)
  unfold wpL_line
  refine wl_nib (i := 0) (by omega) ?_
  refine wl_nib (i := 1) (by omega) ?_
  refine wl_nib (i := 2) (by omega) ?_
  refine wl_nib (i := 3) (by omega) ?_
  rw [hx 0 (by omega), hx 1 (by omega), hx 2 (by omega), hx 3 (by omega)]
  exact ⟨65, wl_line_l hM hH h15 hpost 65 0 _ _ _ _ (by omega) (Nat.le_refl _) (Nat.le_refl _) (Nat.le_refl _) (Nat.le_refl _) (hM.1 0 (by omega)) (hM.1 1 (by omega)) (hM.1 2 (by omega)) (hM.1 3 (by omega)) (by omega)⟩
theorem wl_top_l {post : Int64 → Prop} {I : Int64} {t : Int32} {n : Nat} (n4 : n ≤ 4) (h14 : ∀ p, p < n → nk_v I p ≤ 14)
    (hpost : ∀ z, (∀ p, p < 4 → nk_v z p = if p < n ∧ bt t p = false then nk_v I p + 1 else nk_v I p) → post z) :
    ∀ (fu i : Nat) (x : Int64), n < fu + i → i ≤ n → (∀ p, p < 4 → nk_v x p = if p < i ∧ bt t p = false then nk_v I p + 1 else nk_v I p) → wL_top_6 post I t (nI n) fu x (nI i) := by
  intro fu
  induction fu with
  | zero => intro i x q1 q2; omega
  | succ fu ih =>
    intro i x q1 q2 q3
    by_cases e : n ≤ i
    · have e2 : i = n := by omega
      simp (disch := omega) only [wL_top_6, e, forall_eq, Nat.le_refl, rl_10, rl_n10, nI_leI, nI_ltI, nI_eq, vp_in_nI, nI_clamp, nI_1, nI_add, rl_lt0, rl_0le, rl_eq0, rl_eq1, rl_eq2, rl_m1, rl_m8, rl_m100, rl_vb0, rl_vb1, true_implies, forall_const, not_true_eq_false, not_false_eq_true, false_implies, and_true, true_and, implies_true, and_self]
      rw [e2] at q3
      exact hpost x q3
    · have h14i := h14 i (by omega)
      by_cases b : bt t i = false
      · have b2 := (bq_shr t (p := i) (by omega)).mpr b
        simp (disch := omega) only [wL_top_6, e, b2, forall_eq, Nat.le_refl, rl_10, rl_n10, nI_leI, nI_ltI, nI_eq, vp_in_nI, nI_clamp, nI_1, nI_add, rl_lt0, rl_0le, rl_eq0, rl_eq1, rl_eq2, rl_m1, rl_m8, rl_m100, rl_vb0, rl_vb1, true_implies, forall_const, not_true_eq_false, not_false_eq_true, false_implies, and_true, true_and, implies_true, and_self]
        refine wl_nib (by omega) ?_
        simp (disch := omega) only [forall_eq, Nat.le_refl, rl_10, rl_n10, nI_leI, nI_ltI, nI_eq, vp_in_nI, nI_clamp, nI_1, nI_add, rl_lt0, rl_0le, rl_eq0, rl_eq1, rl_eq2, rl_m1, rl_m8, rl_m100, rl_vb0, rl_vb1, true_implies, forall_const, not_true_eq_false, not_false_eq_true, false_implies, and_true, true_and, implies_true, and_self]
        refine wl_set (by omega) (by omega) (fun z hz => ?_)
        refine ih (i + 1) z (by omega) (by omega) (fun p hp => ?_)
        rw [hz p (by omega)]
        by_cases q : p = i
        · rw [if_pos q, q, if_pos ⟨by omega, b⟩]
        · rw [if_neg q, q3 p hp]
          by_cases w : p < i ∧ bt t p = false
          · rw [if_pos w, if_pos ⟨by omega, w.2⟩]
          · rw [if_neg w, if_neg (fun y => w ⟨by omega, y.2⟩)]
      · have b2 : ¬ ((t >>> (nI i &&& 31)) &&& 1) = 0 := fun z => b ((bq_shr t (by omega)).mp z)
        simp (disch := omega) only [wL_top_6, e, b2, forall_eq, Nat.le_refl, rl_10, rl_n10, nI_leI, nI_ltI, nI_eq, vp_in_nI, nI_clamp, nI_1, nI_add, rl_lt0, rl_0le, rl_eq0, rl_eq1, rl_eq2, rl_m1, rl_m8, rl_m100, rl_vb0, rl_vb1, true_implies, forall_const, not_true_eq_false, not_false_eq_true, false_implies, and_true, true_and, implies_true, and_self]
        refine ih (i + 1) x (by omega) (by omega) (fun p hp => ?_)
        rw [q3 p hp]
        by_cases w : p < i ∧ bt t p = false
        · rw [if_pos w, if_pos ⟨by omega, w.2⟩]
        · have w2 : ¬ (p < i + 1 ∧ bt t p = false) := by
            intro y
            by_cases q : p = i
            · rw [q] at y; exact b y.2
            · exact w ⟨by omega, y.2⟩
          rw [if_neg w, if_neg w2]
theorem wl_top {post : Int64 → Prop} {u : St0} {I : Int64} {t : Int32} {n : Nat} (n4 : n ≤ 4) (h14 : ∀ p, p < n → nk_v I p ≤ 14)
    (hpost : ∀ z, (∀ p, p < 4 → nk_v z p = if p < n ∧ bt t p = false then nk_v I p + 1 else nk_v I p) → post z) : wpL_top post u I t (nI n) :=
  ⟨n + 1, wl_top_l n4 h14 hpost (n + 1) 0 I (by omega) (by omega) (fun p _ => by rw [if_neg (fun z => absurd z.1 (by omega))])⟩
