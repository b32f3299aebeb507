theorem rl_updZ (k : Nat) : upd (fun _ => 0) k 0 = fun _ => 0 := by
  funext q
  unfold upd
  split <;> rfl
theorem rl_W_0 {n c m : Nat} (hn : 2 ≤ n ∧ n ≤ 4) (hc : 3 ≤ c ∧ c ≤ 8) (hm : 4 ≤ m ∧ m ≤ 16) : rl_W n c m (fun _ => 0) (fun p => if p < n then 1 else 0) (fun _ _ => 0) (fun _ => 0) (fun _ => 0) (fun _ => 0) (fun _ => 0) (fun _ => 0) := by
  refine ⟨⟨hn, hc, hm⟩, fun p hp => ?_, ⟨fun s => ⟨Nat.zero_le _, by show 0 < n; omega, by show 0 < n; omega, Nat.zero_le _, Nat.zero_le _⟩, fun s _ _ => Nat.le_refl _⟩, fun _ => 0, fun p hp => ?_, fun s _ h => absurd h (by show ¬ 0 = 2; omega)⟩
  · show 1 ≤ (if p < n then 1 else 0) ∧ (if p < n then 1 else 0) ≤ c ∧ (∀ j k, j < k → k < (if p < n then 1 else 0) → 0 < 0) ∧ (∀ k, k < (if p < n then 1 else 0) → 0 ≤ 0) ∧ 0 ≤ 99
    rw [if_pos hp]
    exact ⟨by omega, by omega, fun j k h1 h2 => by omega, fun k _ => by omega, by omega⟩
  · show 0 < (if p < n then 1 else 0)
    rw [if_pos hp]; omega
theorem rq_init_l {n c m mc ms kc ks : Nat} (n4 : n ≤ 4) {post : St2 → Prop} (hpost : ∀ vX SV, post (nI n, nI c, nI m, vX, fun _ => 0, rl_mix n (fun _ => 1) (fun _ => 0), rl_mix n (fun _ => 1) (fun _ => 0), fun _ => 0, SV, fun _ => 0, fun _ => 0, fun _ => 0, fun _ => 0, fun _ => 0, fun _ => 0, fun _ => 0, fun _ => 0, fun _ => 0)) :
    ∀ (fu i : Nat) (vX SV : Nat → Int32), n < fu + i → i ≤ n → wX_init_154 post mc ms kc ks fu (nI i) (nI n) (nI c) (nI m) vX (fun _ => 0) (rl_mix i (fun _ => 1) (fun _ => 0)) (rl_mix i (fun _ => 1) (fun _ => 0)) (fun _ => 0) SV (fun _ => 0) (fun _ => 0) (fun _ => 0) (fun _ => 0) (fun _ => 0) (fun _ => 0) (fun _ => 0) (fun _ => 0) (fun _ => 0) := by
  intro fu
  induction fu with
  | zero => intro i vX SV q1 q2; omega
  | succ fu ih =>
    intro i vX SV q1 q2
    by_cases e : n ≤ i
    · have e2 : i = n := by omega
      simp (disch := omega) only [wX_init_154, e, forall_eq, Nat.le_refl, rl_10, rl_n10, nI_leI, nI_ltI, nI_eq, vp_in_nI, nI_clamp, nI_1, nI_add, rl_lt0, rl_0le, rl_eq0, rl_eq1, rl_eq2, rl_m1, rl_m8, rl_m100, rl_vb0, rl_vb1, true_implies, forall_const, not_true_eq_false, not_false_eq_true, false_implies, and_true, true_and, implies_true, and_self]
      rw [e2]
      exact hpost vX SV
    · have hct : rl_mix i (fun _ => (1 : Int32)) (fun _ => 0) i = 0 := rl_mix_ge (Nat.le_refl _)
      simp (disch := omega) only [wX_init_154, wpX_store, wpX_firstCell, e, hct, Int32.add_zero, Int32.zero_add, pk_us, rl_updZ, forall_eq, Nat.le_refl, rl_10, rl_n10, nI_leI, nI_ltI, nI_eq, vp_in_nI, nI_clamp, nI_1, nI_add, rl_lt0, rl_0le, rl_eq0, rl_eq1, rl_eq2, rl_m1, rl_m8, rl_m100, rl_vb0, rl_vb1, true_implies, forall_const, not_true_eq_false, not_false_eq_true, false_implies, and_true, true_and, implies_true, and_self]
      rw [rl_mix_s (i := i) (a := fun _ => (1 : Int32)) (x := 1) rfl]
      exact ih (i + 1) _ _ (by omega) (by omega)
theorem rq_R_0 {n c m : Nat} (hn : 2 ≤ n ∧ n ≤ 4) (hc : 3 ≤ c ∧ c ≤ 8) (hm : 4 ≤ m ∧ m ≤ 16) :
    rq_R n c m (fun _ => 0) (fun p => if p < n then 1 else 0) (fun _ _ => 0) (fun _ => 0) (fun _ => 0) (fun _ => 0) (fun _ => 0) (fun _ => 0) (fun _ _ _ => 0) 0 0 0 0 0 0 0 0 0 0 0 0 0 0 0 0 0 0
      (fun _ => 0) (rl_mix n (fun _ => 1) (fun _ => 0)) (rl_mix n (fun _ => 1) (fun _ => 0)) (fun _ => 0) (fun _ => 0) (fun _ => 0) (fun _ => 0) (fun _ => 0) (fun _ => 0) := by
  refine ⟨⟨rl_W_0 hn hc hm, fun p => rfl, fun p => ?_, fun p _ k _ => rfl, fun s => rfl, fun s => rfl, fun s => rfl, fun s => rfl, fun s => rfl⟩, ⟨fun p _ => Nat.zero_le _, fun r s j h => absurd h (by show ¬ 0 < 0; omega), fun e _ h => absurd rfl h, fun e _ h => absurd h (by show ¬ 0 = 2; omega), fun r s j h => absurd h (by show ¬ 0 < 0; omega), fun T _ M hM p hp => ?_⟩,
    fun j _ => ?_, fun p _ => ?_, fun e _ => nk_0 e, fun e _ h => absurd rfl h, fun e _ h => absurd h (by show ¬ 0 = 2; omega), fun p hp => ?_⟩
  · show _ = nI (if p < n then 1 else 0)
    by_cases h : p < n
    · rw [rl_mix_lt h, if_pos h]; rfl
    · rw [rl_mix_ge (by omega), if_neg h]; rfl
  · have h1 := hM.1 p (by omega)
    have h2 := hM.2.2 (rq_top n (fun _ => 0) T) (fun q _ => Nat.le_refl _) (fun r _ s _ _ j _ => Nat.zero_le _) p (by omega)
    show M p = 0 + 1 ∨ ∃ k, k < (if p < n then 1 else 0) ∧ 0 = M p
    by_cases t : T p = true
    · rw [rq_top_t hp t] at h1 h2
      exact Or.inr ⟨0, by rw [if_pos hp]; omega, by omega⟩
    · rw [rq_top_f hp t] at h1 h2
      exact Or.inl (by omega)
  · simp only [nk_0, and_self]
  · rw [nk_0]; split <;> rfl
  · rw [b_0]
    unfold rl_dn
    rw [rl_mix_lt hp]
    decide
theorem rq_clamp {post : Int32 → Prop} {u : St0} {x lo hi : Int32} (h1 : lo ≤ x) (h2 : x ≤ hi) (k : post x) : wpX_clamp post u x lo hi := br_t h1 (br_t h2 k)
theorem i_vc (xs : Nat → Int32) (L : Nat) (hL : L ≤ 260) : wpL_law (fun r => r = 1) L xs := by
  unfold wpL_law
  refine lq_cell (j := 0) (by omega) (by omega) (fun r1 => ?_)
  refine ⟨by decide, ?_⟩
  obtain ⟨a, ha, ea⟩ := pk_andE r1 (m := 2147483647) 31 (by decide)
  have e1 : nI a - nI a / 3 * 3 = nI (a % 3) := pk_rem (d := 3) ha (by omega) (by omega)
  have e2 : 2 + nI (a % 3) = nI (2 + a % 3) := nI_add 2 _
  rw [ea, e1, e2]
  refine nm_e ?_
  refine lq_cell (j := 2) (by omega) (by omega) (fun r2 => ?_)
  refine ⟨by decide, ?_⟩
  obtain ⟨b, hb, eb⟩ := pk_andE r2 (m := 2147483647) 31 (by decide)
  have e3 : nI b - nI b / 13 * 13 = nI (b % 13) := pk_rem (d := 13) hb (by omega) (by omega)
  have e4 : 4 + nI (b % 13) = nI (4 + b % 13) := nI_add 4 _
  rw [eb, e3, e4]
  refine nm_e ?_
  refine lq_cell (j := 1) (by omega) (by omega) (fun r3 => ?_)
  refine ⟨by decide, ?_⟩
  obtain ⟨d, hd, ed⟩ := pk_andE r3 (m := 2147483647) 31 (by decide)
  have e5 : nI d - nI d / 6 * 6 = nI (d % 6) := pk_rem (d := 6) hd (by omega) (by omega)
  have e6 : 3 + nI (d % 6) = nI (3 + d % 6) := nI_add 3 _
  rw [ed, e5, e6]
  have hn : 2 ≤ 2 + a % 3 ∧ 2 + a % 3 ≤ 4 := by omega
  have hm : 4 ≤ 4 + b % 13 ∧ 4 + b % 13 ≤ 16 := by omega
  have hc : 3 ≤ 3 + d % 6 ∧ 3 + d % 6 ≤ 8 := by omega
  generalize 2 + a % 3 = n at hn
  generalize 4 + b % 13 = m at hm
  generalize 3 + d % 6 = c at hc
  refine ⟨15, 228, by omega, by omega, ?_⟩
  unfold wpX_init
  refine ⟨by omega, by omega, by omega, by omega, by omega, by omega, by omega, by omega, by omega, by omega, by omega, by omega, by omega, by omega, by omega, by omega, by omega, by omega, by omega, by omega, by omega, by omega, by omega, by omega, by omega, by omega, by omega, by omega, by omega, by omega, ?_⟩
  refine rq_clamp (nI_le (a := 2) hn.1 (by omega)) (nI_le (b := 4) hn.2 (by omega)) ?_
  refine rq_clamp (nI_le (a := 3) hc.1 (by omega)) (nI_le (b := 8) hc.2 (by omega)) ?_
  refine rq_clamp (nI_le (a := 4) hm.1 (by omega)) (nI_le (b := 16) hm.2 (by omega)) ?_
  have := rq_init_l (c := c) (m := m) (mc := 15) (ms := 228) (kc := 15) (ks := 228) hn.2 (post := fun u => match u with
    | (f1, f2, f3, u1, u2, u3, u4, u5, u6, u7, u8, u9, u10, u11, u12, u13, u14, u15) => ∃ fu108 : Nat, wL_law_108 (fun r => r = 1) L xs 2147483647 (nI n) (nI m) (1 + 15) (18 + 228) fu108 0 0 0 0 0 0 0 0 0 0 0 0 0 0 0 0 0 0 3 f1 f2 f3 u1 u2 u3 u4 u5 u6 u7 u8 u9 u10 u11 u12 u13 u14 u15)
    (fun vX SV => ?_) (n + 1) 0 (fun _ => 0) (fun _ => 0) (by omega) (by omega)
  · rw [rl_mix_0] at this
    exact ⟨_, this⟩
  · exact ⟨600, lq_108 (post := fun r => r = 1) (xs := xs) (x1 := 2147483647) (kc := 1 + 15) (ks := 18 + 228) hL rfl rfl 600 3 _ _ _ _ _ _ _ _ _ _ _ _ _ _ _ _ _ _ _ _ _ _ _ _ _ _ _ _ _ _ _ _ _ _ _ _ _ _ _ _ _ _ (by omega) (by omega) (rq_R_0 hn hc hm)⟩
