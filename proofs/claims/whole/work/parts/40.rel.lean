def i_Rel (_ : Nat) (u : SX) (v : SY) : Prop :=
  ∃ (n c m : Nat) (iv ct st sd rc si ri : Nat → Nat) (g : Nat → Nat → Nat) (vX vY IV U CT NB SV TB TS ST SD RC PL SI RI LN ND SE CP KP SL : Nat → Int32),
    u = (nI n, nI c, nI m, vX, IV, U, CT, NB, SV, ST, SD, RC, PL, SI, RI, LN, ND, SE) ∧ v = (nI n, nI c, nI m, vY, IV, U, TB, TS, ST, SD, RC, PL, SI, RI, CP, KP, SL) ∧ rl_R n c m iv ct g st sd rc si ri vX vY IV U CT NB SV TB TS ST SD RC SI RI
theorem i_up {k : Nat} {u : SX} {v : SY} (h : i_Rel k u v) : i_Rel (k + 3) u v := h
theorem rl_mk {k n c m : Nat} {iv ct st sd rc si ri : Nat → Nat} {g : Nat → Nat → Nat} {vX vY IV U CT NB SV TB TS ST SD RC PL SI RI LN ND SE CP KP SL : Nat → Int32}
    (h : rl_R n c m iv ct g st sd rc si ri vX vY IV U CT NB SV TB TS ST SD RC SI RI) : i_Rel k (nI n, nI c, nI m, vX, IV, U, CT, NB, SV, ST, SD, RC, PL, SI, RI, LN, ND, SE) (nI n, nI c, nI m, vY, IV, U, TB, TS, ST, SD, RC, PL, SI, RI, CP, KP, SL) :=
  ⟨n, c, m, iv, ct, st, sd, rc, si, ri, g, vX, vY, IV, U, CT, NB, SV, TB, TS, ST, SD, RC, PL, SI, RI, LN, ND, SE, CP, KP, SL, rfl, rfl, h⟩
theorem rl_B_of {n c m : Nat} {iv ct st sd rc si ri : Nat → Nat} {g : Nat → Nat → Nat} {vX vY IV U CT NB SV TB TS ST SD RC SI RI : Nat → Int32} (h : rl_R n c m iv ct g st sd rc si ri vX vY IV U CT NB SV TB TS ST SD RC SI RI) : rl_AY n c m iv ct g st sd rc si ri IV TB ST SD RC SI RI := by
  obtain ⟨⟨hW, hIV, _, _, hST, hSD, hRC, hSI, hRI⟩, hTab, _⟩ := h
  exact ⟨hW, hIV, hTab.1, hST, hSD, hRC, hSI, hRI⟩
def rl_cp (x lo hi : Int32) : Int32 := if lo ≤ x then (if x ≤ hi then x else hi) else lo
theorem rl_cp_n (x : Int32) (lo hi : Nat) (h : lo ≤ hi) (hh : hi < 2 ^ 31) : ∃ N, lo ≤ N ∧ N ≤ hi ∧ rl_cp x (nI lo) (nI hi) = nI N := by
  unfold rl_cp
  by_cases a : nI lo ≤ x
  · rw [if_pos a]
    by_cases b : x ≤ nI hi
    · rw [if_pos b]
      have h0 : ¬ x < 0 := Int32.not_lt.mpr (Int32.le_trans (nI_pos' (by omega)) a)
      obtain ⟨j, hj, rfl⟩ := nI_of h0
      exact ⟨j, (nI_leI (by omega) hj).mp a, (nI_leI hj hh).mp b, rfl⟩
    · rw [if_neg b]; exact ⟨hi, h, Nat.le_refl _, rfl⟩
  · rw [if_neg a]; exact ⟨lo, Nat.le_refl _, h, rfl⟩
theorem rl_br {P : Int32 → Prop} {x lo hi : Int32} (h : P (rl_cp x lo hi)) : (lo ≤ x → ((x ≤ hi → P x) ∧ (¬ x ≤ hi → P hi))) ∧ (¬ lo ≤ x → P lo) := by
  unfold rl_cp at h
  constructor
  · intro a
    rw [if_pos a] at h
    constructor
    · intro b; rw [if_pos b] at h; exact h
    · intro b; rw [if_neg b] at h; exact h
  · intro a; rw [if_neg a] at h; exact h
theorem rl_updZ (k : Nat) : upd (fun _ => 0) k 0 = fun _ => 0 := by
  funext q
  unfold upd
  split <;> rfl
theorem rx_init_l {n c m : Nat} (n4 : n ≤ 4) {post : SX → Prop}
    (hpost : ∀ SV, (∀ q, q < n → SV (q * 8) = nI (q + 1)) → post (nI n, nI c, nI m, rl_mix n (fun p => nI (p + 1)) (fun _ => 0), fun _ => 0, rl_mix n (fun _ => 1) (fun _ => 0), rl_mix n (fun _ => 1) (fun _ => 0), fun _ => 0, SV, fun _ => 0, fun _ => 0, fun _ => 0, fun _ => 0, fun _ => 0, fun _ => 0, fun _ => 0, fun _ => 0, fun _ => 0)) :
    ∀ (fu i : Nat) (SV : Nat → Int32), n < fu + i → i ≤ n → (∀ q, q < i → SV (q * 8) = nI (q + 1)) →
      wX_init_154 post fu (nI i) (nI n) (nI c) (nI m) (rl_mix i (fun p => nI (p + 1)) (fun _ => 0)) (fun _ => 0) (rl_mix i (fun _ => 1) (fun _ => 0)) (rl_mix i (fun _ => 1) (fun _ => 0)) (fun _ => 0) SV (fun _ => 0) (fun _ => 0) (fun _ => 0) (fun _ => 0) (fun _ => 0) (fun _ => 0) (fun _ => 0) (fun _ => 0) (fun _ => 0) := by
  intro fu
  induction fu with
  | zero => intro i SV q1 q2; omega
  | succ fu ih =>
    intro i SV q1 q2 q3
    by_cases e : n ≤ i
    · have e2 : i = n := by omega
      simp (disch := omega) only [wX_init_154, e, forall_eq, Nat.le_refl, rl_10, rl_n10, nI_leI, nI_ltI, nI_eq, vp_in_nI, nI_clamp, nI_1, nI_add, rl_lt0, rl_0le, rl_eq0, rl_eq1, rl_eq2, rl_m1, rl_m8, rl_m100, rl_vb0, rl_vb1, true_implies, forall_const, not_true_eq_false, not_false_eq_true, false_implies, and_true, true_and, implies_true, and_self]
      rw [e2] at q3 ⊢
      exact hpost SV q3
    · have hct : rl_mix i (fun _ => (1 : Int32)) (fun _ => 0) i = 0 := rl_mix_ge (Nat.le_refl _)
      have := ih (i + 1) (upd SV (i * 8) (nI (i + 1))) (by omega) (by omega) (fun q hq => ?_)
      · rw [← rl_mix_s (i := i) (a := fun p => nI (p + 1)) rfl, ← rl_mix_s (i := i) (a := fun _ => (1 : Int32)) (x := 1) rfl] at this
        simp (disch := omega) only [wX_init_154, wpX_store, wpX_firstCell, e, hct, Int32.add_zero, Int32.zero_add, pk_us, rl_updZ, forall_eq, Nat.le_refl, rl_10, rl_n10, nI_leI, nI_ltI, nI_eq, vp_in_nI, nI_clamp, nI_1, nI_add, rl_lt0, rl_0le, rl_eq0, rl_eq1, rl_eq2, rl_m1, rl_m8, rl_m100, rl_vb0, rl_vb1, true_implies, forall_const, not_true_eq_false, not_false_eq_true, false_implies, and_true, true_and, implies_true, and_self]
        exact this
      · by_cases qe : q = i
        · rw [qe, pk_us]
        · rw [pk_un (by omega)]; exact q3 q (by omega)
theorem ry_init_l {n c m : Nat} (n4 : n ≤ 4) {post : SY → Prop}
    (hpost : ∀ TB TS, (∀ j, TB j = if j % 100 = 0 ∧ j / 100 < n then 1 else 0) → (∀ q, q < n → TS (q * 100) = nI (q + 1)) → post (nI n, nI c, nI m, rl_mix n (fun p => nI (p + 1)) (fun _ => 0), fun _ => 0, rl_mix n (fun _ => 1) (fun _ => 0), TB, TS, fun _ => 0, fun _ => 0, fun _ => 0, fun _ => 0, fun _ => 0, fun _ => 0, fun _ => 0, fun _ => 0, fun _ => 0)) :
    ∀ (fu i : Nat) (TB TS : Nat → Int32), n < fu + i → i ≤ n → (∀ j, TB j = if j % 100 = 0 ∧ j / 100 < i then 1 else 0) → (∀ q, q < i → TS (q * 100) = nI (q + 1)) →
      wY_init_191 post (nI n) (nI c) (nI m) fu (nI i) (rl_mix i (fun p => nI (p + 1)) (fun _ => 0)) (fun _ => 0) (rl_mix i (fun _ => 1) (fun _ => 0)) TB TS (fun _ => 0) (fun _ => 0) (fun _ => 0) (fun _ => 0) (fun _ => 0) (fun _ => 0) (fun _ => 0) (fun _ => 0) (fun _ => 0) := by
  intro fu
  induction fu with
  | zero => intro i TB TS q1 q2; omega
  | succ fu ih =>
    intro i TB TS q1 q2 q3 q4
    by_cases e : n ≤ i
    · have e2 : i = n := by omega
      simp (disch := omega) only [wY_init_191, e, forall_eq, Nat.le_refl, rl_10, rl_n10, nI_leI, nI_ltI, nI_eq, vp_in_nI, nI_clamp, nI_1, nI_add, rl_lt0, rl_0le, rl_eq0, rl_eq1, rl_eq2, rl_m1, rl_m8, rl_m100, rl_vb0, rl_vb1, true_implies, forall_const, not_true_eq_false, not_false_eq_true, false_implies, and_true, true_and, implies_true, and_self]
      rw [e2] at q3 q4 ⊢
      exact hpost TB TS q3 q4
    · have := ih (i + 1) (upd TB (i * 100) 1) (upd TS (i * 100) (nI (i + 1))) (by omega) (by omega) (fun j => ?_) (fun q hq => ?_)
      · rw [← rl_mix_s (i := i) (a := fun p => nI (p + 1)) rfl, ← rl_mix_s (i := i) (a := fun _ => (1 : Int32)) (x := 1) rfl] at this
        simp (disch := omega) only [wY_init_191, e, forall_eq, Nat.le_refl, rl_10, rl_n10, nI_leI, nI_ltI, nI_eq, vp_in_nI, nI_clamp, nI_1, nI_add, rl_lt0, rl_0le, rl_eq0, rl_eq1, rl_eq2, rl_m1, rl_m8, rl_m100, rl_vb0, rl_vb1, true_implies, forall_const, not_true_eq_false, not_false_eq_true, false_implies, and_true, true_and, implies_true, and_self]
        exact this
      · by_cases qe : j = i * 100
        · rw [qe, pk_us, if_pos (by omega)]
        · rw [pk_un qe, q3 j]
          by_cases l : j % 100 = 0 ∧ j / 100 < i
          · rw [if_pos l, if_pos (by omega)]
          · rw [if_neg l, if_neg (by omega)]
      · by_cases qe : q = i
        · rw [qe, pk_us]
        · rw [pk_un (by omega)]; exact q4 q (by omega)
theorem ry_init {post : SY → Prop} {p0 p1 p2 : Int32} (h : ∃ f, wY_init_191 post (rl_cp p0 2 4) (rl_cp p1 3 8) (rl_cp p2 4 16) f 0 (fun _ => 0) (fun _ => 0) (fun _ => 0) (fun _ => 0) (fun _ => 0) (fun _ => 0) (fun _ => 0) (fun _ => 0) (fun _ => 0) (fun _ => 0) (fun _ => 0) (fun _ => 0) (fun _ => 0) (fun _ => 0)) : wpY_init post p0 p1 p2 := by
  refine rl_br (P := fun z => wY_init_135 post p1 p2 z 0 0 0 (fun _ => 0) (fun _ => 0) (fun _ => 0) (fun _ => 0) (fun _ => 0) (fun _ => 0) (fun _ => 0) (fun _ => 0) (fun _ => 0) (fun _ => 0) (fun _ => 0) (fun _ => 0) (fun _ => 0) (fun _ => 0)) ?_
  refine rl_br (P := fun z => wY_init_160 post p2 z (rl_cp p0 2 4) 0 0 (fun _ => 0) (fun _ => 0) (fun _ => 0) (fun _ => 0) (fun _ => 0) (fun _ => 0) (fun _ => 0) (fun _ => 0) (fun _ => 0) (fun _ => 0) (fun _ => 0) (fun _ => 0) (fun _ => 0) (fun _ => 0)) ?_
  exact rl_br (P := fun z => ∃ f, wY_init_191 post (rl_cp p0 2 4) (rl_cp p1 3 8) z f 0 (fun _ => 0) (fun _ => 0) (fun _ => 0) (fun _ => 0) (fun _ => 0) (fun _ => 0) (fun _ => 0) (fun _ => 0) (fun _ => 0) (fun _ => 0) (fun _ => 0) (fun _ => 0) (fun _ => 0) (fun _ => 0)) h
theorem rl_W_0 {n c m : Nat} (hn : 2 ≤ n ∧ n ≤ 4) (hc : 3 ≤ c ∧ c ≤ 8) (hm : 4 ≤ m ∧ m ≤ 16) : rl_W n c m (fun _ => 0) (fun p => if p < n then 1 else 0) (fun _ _ => 0) (fun _ => 0) (fun _ => 0) (fun _ => 0) (fun _ => 0) (fun _ => 0) := by
  refine ⟨⟨hn, hc, hm⟩, fun p hp => ?_, ⟨fun s => ⟨Nat.zero_le _, by show 0 < n; omega, by show 0 < n; omega, Nat.zero_le _, Nat.zero_le _⟩, fun s _ _ => Nat.le_refl _⟩, fun _ => 0, fun p hp => ?_, fun s _ h => absurd h (by show ¬ 0 = 2; omega)⟩
  · show 1 ≤ (if p < n then 1 else 0) ∧ (if p < n then 1 else 0) ≤ c ∧ (∀ j k, j < k → k < (if p < n then 1 else 0) → 0 < 0) ∧ (∀ k, k < (if p < n then 1 else 0) → 0 ≤ 0) ∧ 0 ≤ 99
    rw [if_pos hp]
    exact ⟨by omega, by omega, fun j k h1 h2 => by omega, fun k _ => by omega, by omega⟩
  · show 0 < (if p < n then 1 else 0)
    rw [if_pos hp]; omega
theorem i_vc0 (k0 : Int32) (k1 : Int32) (k2 : Int32) : wpX_init (fun u => wpY_init (fun v => i_Rel 3 u v) k0 k1 k2) k0 k1 k2 := by
  obtain ⟨n, n2, n4, hn⟩ : ∃ N, 2 ≤ N ∧ N ≤ 4 ∧ rl_cp k0 2 4 = nI N := rl_cp_n k0 2 4 (by omega) (by omega)
  obtain ⟨c, c3, c8, hc⟩ : ∃ N, 3 ≤ N ∧ N ≤ 8 ∧ rl_cp k1 3 8 = nI N := rl_cp_n k1 3 8 (by omega) (by omega)
  obtain ⟨m, m4, m16, hm⟩ : ∃ N, 4 ≤ N ∧ N ≤ 16 ∧ rl_cp k2 4 16 = nI N := rl_cp_n k2 4 16 (by omega) (by omega)
  unfold wpX_init
  refine rl_br (P := fun r_1 => wpX_clamp (fun r_2 => wpX_clamp (fun r_3 => ∃ n154 : Nat, wX_init_154 (fun u => wpY_init (fun v => i_Rel 3 u v) k0 k1 k2) n154 0 r_1 r_2 r_3 (fun _ => 0) (fun _ => 0) (fun _ => 0) (fun _ => 0) (fun _ => 0) (fun _ => 0) (fun _ => 0) (fun _ => 0) (fun _ => 0) (fun _ => 0) (fun _ => 0) (fun _ => 0) (fun _ => 0) (fun _ => 0) (fun _ => 0)) k2 4 16) k1 3 8) ?_
  refine rl_br (P := fun r_2 => wpX_clamp (fun r_3 => ∃ n154 : Nat, wX_init_154 (fun u => wpY_init (fun v => i_Rel 3 u v) k0 k1 k2) n154 0 (rl_cp k0 2 4) r_2 r_3 (fun _ => 0) (fun _ => 0) (fun _ => 0) (fun _ => 0) (fun _ => 0) (fun _ => 0) (fun _ => 0) (fun _ => 0) (fun _ => 0) (fun _ => 0) (fun _ => 0) (fun _ => 0) (fun _ => 0) (fun _ => 0) (fun _ => 0)) k2 4 16) ?_
  refine rl_br (P := fun r_3 => ∃ n154 : Nat, wX_init_154 (fun u => wpY_init (fun v => i_Rel 3 u v) k0 k1 k2) n154 0 (rl_cp k0 2 4) (rl_cp k1 3 8) r_3 (fun _ => 0) (fun _ => 0) (fun _ => 0) (fun _ => 0) (fun _ => 0) (fun _ => 0) (fun _ => 0) (fun _ => 0) (fun _ => 0) (fun _ => 0) (fun _ => 0) (fun _ => 0) (fun _ => 0) (fun _ => 0) (fun _ => 0)) ?_
  try dsimp only
  rw [hn, hc, hm]
  have := rx_init_l (c := c) (m := m) n4 (post := fun u => wpY_init (fun v => i_Rel 3 u v) k0 k1 k2) (fun SV hSV => ?_) (n + 1) 0 (fun _ => 0) (by omega) (by omega) (fun q hq => absurd hq (by omega))
  · rw [rl_mix_0, rl_mix_0] at this
    exact ⟨_, this⟩
  · refine ry_init ?_
    rw [hn, hc, hm]
    have := ry_init_l (c := c) (m := m) n4 (post := fun v => i_Rel 3 (nI n, nI c, nI m, rl_mix n (fun p => nI (p + 1)) (fun _ => 0), fun _ => 0, rl_mix n (fun _ => 1) (fun _ => 0), rl_mix n (fun _ => 1) (fun _ => 0), fun _ => 0, SV, fun _ => 0, fun _ => 0, fun _ => 0, fun _ => 0, fun _ => 0, fun _ => 0, fun _ => 0, fun _ => 0, fun _ => 0) v) (fun TB TS hTB hTS => ?_) (n + 1) 0 (fun _ => 0) (fun _ => 0) (by omega) (by omega) (fun j => ?_) (fun q hq => absurd hq (by omega))
    · rw [rl_mix_0, rl_mix_0] at this
      exact ⟨_, this⟩
    · refine rl_mk (iv := fun _ => 0) (ct := fun p => if p < n then 1 else 0) (g := fun _ _ => 0) (st := fun _ => 0) (sd := fun _ => 0) (rc := fun _ => 0) (si := fun _ => 0) (ri := fun _ => 0) ?_
      refine ⟨⟨rl_W_0 ⟨n2, n4⟩ ⟨c3, c8⟩ ⟨m4, m16⟩, fun p => rfl, fun p => ?_, fun p _ k _ => rfl, fun s => rfl, fun s => rfl, fun s => rfl, fun s => rfl, fun s => rfl⟩, ⟨fun p hp i hi => ?_, fun i hi => ?_, fun p hp k hk => ?_⟩, fun p => ?_, fun p _ _ => rfl⟩
      · show _ = nI (if p < n then 1 else 0)
        by_cases h : p < n
        · rw [rl_mix_lt h, if_pos h]; rfl
        · rw [rl_mix_ge (by omega), if_neg h]; rfl
      · show ¬ TB (p * 100 + i) = 0 ↔ ∃ k, k < (if p < n then 1 else 0) ∧ 0 = i
        rw [hTB, if_pos hp]
        by_cases h : i = 0
        · rw [if_pos (by omega)]
          exact ⟨fun _ => ⟨0, by omega, h.symm⟩, fun _ => by decide⟩
        · rw [if_neg (by omega)]
          exact ⟨fun z => absurd rfl z, fun ⟨k, _, ek⟩ => absurd ek.symm h⟩
      · rw [hTB, if_neg (by omega)]
      · show SV (p * 8 + k) = TS (p * 100 + 0)
        have hk' : k < (if p < n then 1 else 0) := hk
        rw [if_pos hp] at hk'
        have hk0 : k = 0 := by omega
        rw [hk0]
        exact (hSV p hp).trans (hTS p hp).symm
      · by_cases h : p < n
        · rw [rl_mix_lt h]; exact Or.inr rfl
        · rw [rl_mix_ge (by omega)]; exact Or.inl rfl
    · rw [if_neg (by omega)]
