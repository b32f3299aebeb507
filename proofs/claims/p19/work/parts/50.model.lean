/-- the model's consistency: H r s j is one more than the greatest send interval of s among what r received in its interval j -/
def rq_C (H : Nat → Nat → Nat → Nat) (y : Nat → Nat) : Prop := ∀ r, r < 4 → ∀ s, s < 4 → r ≠ s → ∀ j, j < y r → H r s j ≤ y s
def rq_top (n : Nat) (iv : Nat → Nat) (T : Nat → Bool) (p : Nat) : Nat := if p < n then (if T p = true then iv p else iv p + 1) else 0
theorem rq_top_t {n : Nat} {iv : Nat → Nat} {T : Nat → Bool} {p : Nat} (hp : p < n) (h : T p = true) : rq_top n iv T p = iv p := by
  unfold rq_top; rw [if_pos hp, if_pos h]
theorem rq_top_f {n : Nat} {iv : Nat → Nat} {T : Nat → Bool} {p : Nat} (hp : p < n) (h : ¬ T p = true) : rq_top n iv T p = iv p + 1 := by
  unfold rq_top; rw [if_pos hp, if_neg h]
theorem rq_top_o {n : Nat} {iv : Nat → Nat} {T : Nat → Bool} {p : Nat} (hp : ¬ p < n) : rq_top n iv T p = 0 := by
  unfold rq_top; rw [if_neg hp]
theorem rq_top_le {n : Nat} {iv : Nat → Nat} {T : Nat → Bool} {p : Nat} : rq_top n iv T p ≤ iv p + 1 := by
  unfold rq_top
  split
  · split <;> omega
  · omega
theorem rq_ex (n : Nat) (iv : Nat → Nat) (T : Nat → Bool) (H : Nat → Nat → Nat → Nat) : ∃ M, rl_IsL 4 (rq_top n iv T) (rq_C H) M := by
  refine rl_greatest ⟨fun _ => 0, fun p _ => Nat.zero_le _, fun r _ s _ _ j hj => absurd hj (Nat.not_lt_zero j)⟩ (fun a b _ _ ca cb => ?_)
  intro r hr s hs hrs j hj
  rcases rl_max_or a b r with e | e
  · rw [e] at hj
    exact Nat.le_trans (ca r hr s hs hrs j hj) (rl_max_l a b s)
  · rw [e] at hj
    exact Nat.le_trans (cb r hr s hs hrs j hj) (rl_max_r a b s)
theorem rq_mono {n : Nat} {iv : Nat → Nat} {T T' : Nat → Bool} {H : Nat → Nat → Nat → Nat} {M M' : Nat → Nat} (hT : ∀ p, p < n → T p = true → T' p = true)
    (h : rl_IsL 4 (rq_top n iv T) (rq_C H) M) (h' : rl_IsL 4 (rq_top n iv T') (rq_C H) M') : rl_le 4 M' M := by
  refine h.2.2 M' (fun p hp => Nat.le_trans (h'.1 p hp) ?_) h'.2.1
  unfold rq_top
  by_cases a : p < n
  · rw [if_pos a, if_pos a]
    by_cases b : T p = true
    · rw [if_pos b, if_pos (hT p a b)]; exact Nat.le_refl _
    · rw [if_neg b]; split <;> omega
  · rw [if_neg a, if_neg a]; exact Nat.le_refl _
def rq_I (n m : Nat) (iv ct : Nat → Nat) (g : Nat → Nat → Nat) (st sd rc si ri : Nat → Nat) (D : Nat → Bool) (H : Nat → Nat → Nat → Nat) : Prop :=
  (∀ p, p < n → iv p ≤ 14) ∧ (∀ r s j, 0 < H r s j → r < n ∧ s < n ∧ r ≠ s ∧ j ≤ iv r ∧ H r s j ≤ iv s + 1) ∧
  (∀ e, e < m → ¬ st e = 0 → sd e ≠ rc e ∧ si e ≤ iv (sd e)) ∧
  (∀ e, e < m → st e = 2 → si e + 1 ≤ H (rc e) (sd e) (ri e)) ∧
  (∀ r s j, 0 < H r s j → (∃ e, e < m ∧ st e = 2 ∧ rc e = r ∧ sd e = s ∧ ri e = j ∧ si e + 1 = H r s j) ∨
    ∀ M, rl_IsL 4 (rq_top n iv (fun _ => true)) (rq_C H) M → H r s j ≤ M s) ∧
  (∀ T : Nat → Bool, (∀ p, p < n → D p = true → T p = true) → ∀ M, rl_IsL 4 (rq_top n iv T) (rq_C H) M → ∀ p, p < n → M p = iv p + 1 ∨ ∃ k, k < ct p ∧ g p k = M p)
section
variable {n c m : Nat} {iv ct st sd rc si ri : Nat → Nat} {g : Nat → Nat → Nat}
variable {D : Nat → Bool} {H : Nat → Nat → Nat → Nat}
/-- a line of the model is a consistent choice of the component -/
theorem rq_place (hW : rl_W n c m iv ct g st sd rc si ri) (hI : rq_I n m iv ct g st sd rc si ri D H) {T : Nat → Bool} (hD : ∀ p, p < n → D p = true → T p = true) {M : Nat → Nat}
    (hM : rl_IsL 4 (rq_top n iv T) (rq_C H) M) : ∃ κ : Nat → Nat, (∀ p, p < n → κ p ≤ ct p ∧ rl_G ct g iv p (κ p) = M p ∧ (T p = true → κ p < ct p)) ∧ rl_C m iv ct g st sd rc si ri κ := by
  obtain ⟨⟨⟨n2, n4⟩, _⟩, hS, hMs, _⟩ := hW
  obtain ⟨i1, i2, i3, i4, i5, i6⟩ := hI
  have hex : ∀ p, ∃ k, p < n → (k ≤ ct p ∧ rl_G ct g iv p k = M p ∧ (T p = true → k < ct p)) := by
    intro p
    by_cases hp : p < n
    · rcases i6 T hD M hM p hp with e | ⟨k, hk, e⟩
      · refine ⟨ct p, fun _ => ⟨Nat.le_refl _, by rw [rl_G_now (Nat.lt_irrefl _)]; exact e.symm, fun z => ?_⟩⟩
        exfalso
        have := hM.1 p (by omega)
        rw [rq_top_t hp z] at this
        omega
      · exact ⟨k, fun _ => ⟨by omega, by rw [rl_G_in hk]; exact e, fun _ => hk⟩⟩
    · exact ⟨0, fun z => absurd z hp⟩
  obtain ⟨κ, hκ⟩ := Classical.axiomOfChoice hex
  refine ⟨κ, hκ, fun e he h2 hr => ?_⟩
  obtain ⟨t1, t2, t3, t4, t5⟩ := hMs.1 e
  have hr' : ri e < rl_G ct g iv (rc e) (κ (rc e)) := hr
  show si e < rl_G ct g iv (sd e) (κ (sd e))
  rw [(hκ _ t3).2.1] at hr'
  rw [(hκ _ t2).2.1]
  have a1 := i4 e he h2
  have a2 := hM.2.1 (rc e) (by omega) (sd e) (by omega) (fun z => (i3 e he (by omega)).1 z.symm) (ri e) hr'
  omega
/-- the component's lines are the model's -/
theorem rq_eq (hW : rl_W n c m iv ct g st sd rc si ri) (hI : rq_I n m iv ct g st sd rc si ri D H) {T : Nat → Bool} (hD : ∀ p, p < n → D p = true → T p = true) {TX : Int32}
    (hT : ∀ p, p < n → (T p = true ↔ ¬ (TX &&& ((1 : Int32) <<< (nI p &&& 31))) = 0)) {M L : Nat → Nat} (hM : rl_IsL 4 (rq_top n iv T) (rq_C H) M)
    (hL : rl_IsL n (rl_tp ct TX) (rl_C m iv ct g st sd rc si ri) L) : ∀ p, p < n → M p = rl_G ct g iv p (L p) := by
  have hW' := hW
  have hI' := hI
  obtain ⟨⟨⟨n2, n4⟩, _⟩, hS, hMs, _⟩ := hW'
  obtain ⟨i1, i2, i3, i4, i5, i6⟩ := hI'
  have htp : ∀ p, p < n → T p = true → rl_tp ct TX p = ct p - 1 := fun p hp h => if_neg ((hT p hp).mp h)
  have htf : ∀ p, p < n → ¬ T p = true → rl_tp ct TX p = ct p := by
    intro p hp h
    refine if_pos ?_
    apply Classical.byContradiction
    intro z
    exact h ((hT p hp).mpr z)
  have hle : ∀ {T' : Nat → Bool} {M' : Nat → Nat}, (∀ p, p < n → T p = true → T' p = true) → (∀ p, p < n → D p = true → T' p = true) → rl_IsL 4 (rq_top n iv T') (rq_C H) M' → ∀ p, p < n → M' p ≤ rl_G ct g iv p (L p) := by
    intro T' M' h1 h2 h3 p hp
    obtain ⟨κ, hκ, cκ⟩ := rq_place hW hI h2 h3
    have hκL := hL.2.2 κ (fun q hq => ?_) cκ
    · rw [← (hκ p hp).2.1]
      exact rl_G_le hS hp (hκL p hp) (Nat.le_trans (hL.1 p hp) (rl_tp_le ct TX p))
    · obtain ⟨b1, b2, b3⟩ := hκ q hq
      by_cases z : T q = true
      · rw [htp q hq z]
        have := b3 (h1 q hq z)
        omega
      · rw [htf q hq z]; exact b1
  have hge := hM.2.2 (fun p => if p < n then rl_G ct g iv p (L p) else 0) (fun p hp => ?_) (fun r hr s hs hrs j hj => ?_)
  · intro p hp
    have h1 := hle (fun _ _ h => h) hD hM p hp
    have h2 : (if p < n then rl_G ct g iv p (L p) else 0) ≤ M p := hge p (by omega)
    rw [if_pos hp] at h2
    omega
  · show (if p < n then rl_G ct g iv p (L p) else 0) ≤ rq_top n iv T p
    by_cases a : p < n
    · rw [if_pos a]
      have hLp := hL.1 p a
      obtain ⟨s1, s2, s3, s4, s5⟩ := hS p a
      by_cases z : T p = true
      · rw [htp p a z] at hLp
        rw [rq_top_t a z, rl_G_in (by omega)]
        exact s4 _ (by omega)
      · rw [rq_top_f a z]
        by_cases w : L p < ct p
        · rw [rl_G_in w]
          have := s4 _ w
          omega
        · rw [rl_G_now w]; exact Nat.le_refl _
    · rw [if_neg a]; exact Nat.zero_le _
  · have hj' : j < if r < n then rl_G ct g iv r (L r) else 0 := hj
    show H r s j ≤ if s < n then rl_G ct g iv s (L s) else 0
    by_cases z : H r s j = 0
    · omega
    · obtain ⟨b1, b2, b3, b4, b5⟩ := i2 r s j (by omega)
      rw [if_pos b1] at hj'
      rw [if_pos b2]
      rcases i5 r s j (by omega) with ⟨e, he, h2, e1, e2, e3, e4⟩ | hs2
      · have hc : ri e < rl_G ct g iv (rc e) (L (rc e)) → si e < rl_G ct g iv (sd e) (L (sd e)) := hL.2.1 e he h2
        rw [e1, e2, e3] at hc
        have := hc hj'
        omega
      · obtain ⟨Ma, hMa⟩ := rq_ex n iv (fun _ => true) H
        exact Nat.le_trans (hs2 Ma hMa) (hle (fun _ _ _ => rfl) (fun _ _ _ => rfl) hMa s b2)
end
