/-- the greatest place below N that holds -/
theorem rl_last (P : Nat → Prop) : ∀ N, (∃ k, k < N ∧ P k) → ∃ k, k < N ∧ P k ∧ ∀ j, j < N → P j → j ≤ k := by
  intro N
  induction N with
  | zero => rintro ⟨k, hk, _⟩; omega
  | succ N ih =>
    rintro ⟨k, hk, pk⟩
    by_cases e : P N
    · exact ⟨N, by omega, e, fun j hj _ => by omega⟩
    · have hk' : k < N := by
        by_cases q : k = N
        · rw [q] at pk; exact absurd pk e
        · omega
      obtain ⟨i, hi, pi, hm⟩ := ih ⟨k, hk', pk⟩
      refine ⟨i, by omega, pi, fun j hj pj => ?_⟩
      by_cases q : j = N
      · rw [q] at pj; exact absurd pj e
      · exact hm j (by omega) pj
theorem rl_dec_pos {t κ : Nat → Nat} {i : Nat} (h : 0 < κ i) : rl_cd t (rl_u κ i (κ i - 1)) (i + 1) + 1 = rl_cd t κ (i + 1) := by
  have h1 : rl_cd t (rl_u κ i (κ i - 1)) i = rl_cd t κ i := rl_cd_eq i (fun p hp => rl_un (by omega))
  show rl_cd t (rl_u κ i (κ i - 1)) i * (t i + 1) + rl_u κ i (κ i - 1) i + 1 = rl_cd t κ i * (t i + 1) + κ i
  rw [h1, rl_us]
  omega
theorem rl_dec_zero {t κ κ' : Nat → Nat} {i : Nat} (h : κ i = 0) (ht : κ' i = t i) (hc : rl_cd t κ' i + 1 = rl_cd t κ i) : rl_cd t κ' (i + 1) + 1 = rl_cd t κ (i + 1) := by
  show rl_cd t κ' i * (t i + 1) + κ' i + 1 = rl_cd t κ i * (t i + 1) + κ i
  rw [← hc, Nat.succ_mul, h, ht]
  omega
theorem rl_cd_pos0 {t κ : Nat → Nat} {i : Nat} (h : κ i = 0) (hc : 0 < rl_cd t κ (i + 1)) : 0 < rl_cd t κ i := by
  have hc' : 0 < rl_cd t κ i * (t i + 1) + κ i := hc
  by_cases e : rl_cd t κ i = 0
  · rw [e, h, Nat.zero_mul] at hc'; omega
  · omega
section
variable {n c m : Nat} {iv ct st sd rc si ri : Nat → Nat} {g : Nat → Nat → Nat}
theorem rl_C_ext (hM : rl_Msg n m iv st sd rc si ri) {a b : Nat → Nat} (h : ∀ p, p < n → a p = b p) (ha : rl_C m iv ct g st sd rc si ri a) : rl_C m iv ct g st sd rc si ri b := by
  intro s hs h2 hr
  have hs' := hM.1 s
  have hr' : ri s < rl_G ct g iv (rc s) (b (rc s)) := hr
  show si s < rl_G ct g iv (sd s) (b (sd s))
  rw [← h _ hs'.2.2.1] at hr'
  rw [← h _ hs'.2.1]
  exact ha s hs h2 hr'
/-- an orphan lowers its receiver -/
theorem rl_lowk (hS : rl_Sto n c iv ct g) (hM : rl_Msg n m iv st sd rc si ri) {T : Int32} {L κ : Nat → Nat}
    (hL : rl_IsL n (rl_tp ct T) (rl_C m iv ct g st sd rc si ri) L) (hκ : rl_le n κ (rl_tp ct T)) (hLκ : rl_le n L κ) {s : Nat} (hs : s < m) (h2 : st s = 2)
    (hr : ri s < rl_G ct g iv (rc s) (κ (rc s))) (hsi : ¬ si s < rl_G ct g iv (sd s) (κ (sd s))) :
    ∃ k, k < ct (rc s) ∧ g (rc s) k ≤ ri s ∧ (∀ j, j < ct (rc s) → g (rc s) j ≤ ri s → j ≤ k) ∧
      rl_le n (rl_u κ (rc s) k) (rl_tp ct T) ∧ rl_le n L (rl_u κ (rc s) k) ∧ rl_sum (rl_u κ (rc s) k) n < rl_sum κ n := by
  obtain ⟨h3, h4⟩ := rl_low hS hM hL hκ hLκ hs h2 hsi
  obtain ⟨k, hk, hg, hm⟩ := rl_last (fun j => g (rc s) j ≤ ri s) (ct (rc s)) ⟨L (rc s), h3, h4⟩
  have hrc := (hM.1 s).2.2.1
  have hkt := hκ (rc s) hrc
  have htp := rl_tp_le ct T (rc s)
  have hlt : k < κ (rc s) := by
    by_cases e : k < κ (rc s)
    · exact e
    · exfalso
      have h5 : rl_G ct g iv (rc s) (κ (rc s)) ≤ rl_G ct g iv (rc s) k := rl_G_le hS hrc (by omega) (by omega)
      rw [rl_G_in hk] at h5
      have hg' : g (rc s) k ≤ ri s := hg
      omega
  have hle : rl_le n (rl_u κ (rc s) k) κ := by
    intro p hp
    by_cases e : p = rc s
    · rw [e, rl_us]; omega
    · rw [rl_un e]; exact Nat.le_refl _
  refine ⟨k, hk, hg, hm, fun p hp => Nat.le_trans (hle p hp) (hκ p hp), fun p hp => ?_, rl_sum_lt n hle (rc s) hrc (by rw [rl_us]; exact hlt)⟩
  by_cases e : p = rc s
  · rw [e, rl_us]; exact hm _ h3 h4
  · rw [rl_un e]; exact hLκ p hp
theorem rl_Y_exit {T : Int32} {L κ : Nat → Nat} (hL : rl_IsL n (rl_tp ct T) (rl_C m iv ct g st sd rc si ri) L) (hκ : rl_le n κ (rl_tp ct T))
    (hc : rl_cd (rl_tp ct T) L n ≤ rl_cd (rl_tp ct T) κ n) (hC : rl_C m iv ct g st sd rc si ri κ) : ∀ p, p < n → κ p = L p := by
  have h1 := hL.2.2 κ hκ hC
  have h2 := rl_cd_mono (t := rl_tp ct T) n h1
  exact rl_cd_inj n hκ hL.1 (Nat.le_antisymm h2 hc)
theorem rl_Y_step (hM : rl_Msg n m iv st sd rc si ri) {T : Int32} {L κ : Nat → Nat} (hL : rl_IsL n (rl_tp ct T) (rl_C m iv ct g st sd rc si ri) L)
    (hκ : rl_le n κ (rl_tp ct T)) (hc : rl_cd (rl_tp ct T) L n ≤ rl_cd (rl_tp ct T) κ n) (hC : ¬ rl_C m iv ct g st sd rc si ri κ) :
    rl_cd (rl_tp ct T) L n < rl_cd (rl_tp ct T) κ n := by
  by_cases e : rl_cd (rl_tp ct T) L n = rl_cd (rl_tp ct T) κ n
  · exact absurd (rl_C_ext hM (rl_cd_inj n hL.1 hκ e) hL.2.1) hC
  · omega
/-- nothing is stored between two neighbours -/
theorem rl_gap (hS : rl_Sto n c iv ct g) {p k i : Nat} (hp : p < n) (hk : k < ct p) (h1 : rl_G ct g iv p k < i) (h2 : i < rl_G ct g iv p (k + 1)) : ¬ ∃ j, j < ct p ∧ g p j = i := by
  rintro ⟨j, hj, e⟩
  have e' : rl_G ct g iv p j = i := by rw [rl_G_in hj, e]
  by_cases l : j ≤ k
  · have := rl_G_le hS hp l (by omega)
    omega
  · have := rl_G_le hS hp (j := k + 1) (k := j) (by omega) (by omega)
    omega
theorem rl_gap0 (hS : rl_Sto n c iv ct g) {p i : Nat} (hp : p < n) (h2 : i < rl_G ct g iv p 0) : ¬ ∃ j, j < ct p ∧ g p j = i := by
  rintro ⟨j, hj, e⟩
  have e' : rl_G ct g iv p j = i := by rw [rl_G_in hj, e]
  have := rl_G_le hS hp (j := 0) (k := j) (by omega) (by omega)
  omega
end
