section
variable {n c m : Nat} {iv ct st sd rc si ri : Nat → Nat} {g : Nat → Nat → Nat}
variable {D : Nat → Bool} {H : Nat → Nat → Nat → Nat}
theorem rq_I_reclaim (n4 : n ≤ 4) (hMs : rl_Msg n m iv st sd rc si ri) (hI : rq_I n m iv ct g st sd rc si ri D H) {ct' : Nat → Nat} {g' : Nat → Nat → Nat} {st' : Nat → Nat}
    (hkeep : ∀ T : Nat → Bool, (∀ p, p < n → D p = true → T p = true) → ∀ M, rl_IsL 4 (rq_top n iv T) (rq_C H) M → ∀ p, p < n → ∀ k, k < ct p → g p k = M p → ∃ j, j < ct' p ∧ g' p j = M p)
    (hst : ∀ e, st' e = st e ∨ (st' e = 0 ∧ st e = 2 ∧ ∀ M, rl_IsL 4 (rq_top n iv (fun _ => true)) (rq_C H) M → ri e < M (rc e))) :
    rq_I n m iv ct' g' st' sd rc si ri D H := by
  obtain ⟨i1, i2, i3, i4, i5, i6⟩ := hI
  refine ⟨i1, i2, fun e he z => ?_, fun e he z => ?_, fun r s j hj => ?_, fun T hT M hM p hp => ?_⟩
  · rcases hst e with a | a
    · exact i3 e he (by omega)
    · exact absurd a.1 z
  · rcases hst e with a | a
    · exact i4 e he (by omega)
    · omega
  · rcases i5 r s j hj with ⟨e, he, h2, w1, w2, w3, w4⟩ | w
    · rcases hst e with a | a
      · exact Or.inl ⟨e, he, by omega, w1, w2, w3, w4⟩
      · refine Or.inr (fun M hM => ?_)
        obtain ⟨b1, b2, b3, b4, b5⟩ := i2 r s j hj
        have h3 := a.2.2 M hM
        rw [w1, w3] at h3
        exact hM.2.1 r (by omega) s (by omega) b3 j h3
    · exact Or.inr w
  · rcases i6 T hT M hM p hp with a | ⟨k, hk, ek⟩
    · exact Or.inl a
    · exact Or.inr (hkeep T hT M hM p hp k hk ek)
theorem rl_rb_0 {x : Nat → Nat} {e : Nat} (h : ¬ rl_rb st sd rc si ri x e = 0) : ¬ st e = 0 ∧ si e < x (sd e) := by
  unfold rl_rb at h
  by_cases z : st e = 0
  · rw [if_pos z] at h; exact absurd rfl h
  · rw [if_neg z] at h
    refine ⟨z, ?_⟩
    by_cases a : si e < x (sd e)
    · exact a
    · rw [if_neg a] at h; exact absurd rfl h
theorem rl_rb_2 {x : Nat → Nat} {e : Nat} (h : rl_rb st sd rc si ri x e = 2) : st e = 2 ∧ ri e < x (rc e) := by
  unfold rl_rb at h
  by_cases z : st e = 0
  · rw [if_pos z] at h; omega
  · rw [if_neg z] at h
    by_cases a : si e < x (sd e)
    · rw [if_pos a] at h
      by_cases b : st e = 2 ∧ ¬ ri e < x (rc e)
      · rw [if_pos b] at h; omega
      · rw [if_neg b] at h
        refine ⟨h, ?_⟩
        apply Classical.byContradiction
        intro w
        exact b ⟨h, w⟩
    · rw [if_neg a] at h; omega
theorem rl_rb_i {x : Nat → Nat} {e : Nat} (h : st e = 2) (h1 : si e < x (sd e)) (h2 : ri e < x (rc e)) : rl_rb st sd rc si ri x e = 2 := by
  unfold rl_rb
  rw [if_neg (by omega), if_pos h1, if_neg (fun z => z.2 h2)]
  exact h
theorem rq_I_recover (n4 : n ≤ 4) (hS : rl_Sto n c iv ct g) (hMs : rl_Msg n m iv st sd rc si ri) (hI : rq_I n m iv ct g st sd rc si ri D H) {x L : Nat → Nat}
    (hx : rl_IsL 4 (rq_top n iv D) (rq_C H) x) (hxL : ∀ p, p < n → x p = rl_G ct g iv p (L p)) :
    rq_I n m (fun p => if p < n ∧ L p < ct p then g p (L p) else iv p) (fun p => if p < n ∧ L p < ct p then L p + 1 else ct p) g
      (fun s => if s < m then rl_rb st sd rc si ri (fun p => rl_G ct g iv p (L p)) s else st s) sd rc si ri (fun _ => false) (fun r s j => if j < x r then H r s j else 0) := by
  obtain ⟨i1, i2, i3, i4, i5, i6⟩ := hI
  have F : ∀ p, p < n → (x p ≤ iv p ∧ (if p < n ∧ L p < ct p then g p (L p) else iv p) = x p ∧ (if p < n ∧ L p < ct p then L p + 1 else ct p) = L p + 1 ∧ L p < ct p ∧ g p (L p) = x p) ∨
      (x p = iv p + 1 ∧ (if p < n ∧ L p < ct p then g p (L p) else iv p) = iv p ∧ (if p < n ∧ L p < ct p then L p + 1 else ct p) = ct p) := by
    intro p hp
    by_cases a : L p < ct p
    · have h1 := hxL p hp
      rw [rl_G_in a] at h1
      have h2 := (hS p hp).2.2.2.1 _ a
      refine Or.inl ⟨by omega, ?_, if_pos ⟨hp, a⟩, a, h1.symm⟩
      rw [if_pos ⟨hp, a⟩]; exact h1.symm
    · have h1 := hxL p hp
      rw [rl_G_now a] at h1
      exact Or.inr ⟨h1, if_neg (fun z => a z.2), if_neg (fun z => a z.2)⟩
  have hsx : ∀ e, e < m → ¬ (if e < m then rl_rb st sd rc si ri (fun p => rl_G ct g iv p (L p)) e else st e) = 0 → ¬ st e = 0 ∧ si e < x (sd e) := by
    intro e he h
    rw [if_pos he] at h
    have := rl_rb_0 h
    rw [hxL _ (hMs.1 e).2.1]
    exact this
  have hs2 : ∀ e, e < m → (if e < m then rl_rb st sd rc si ri (fun p => rl_G ct g iv p (L p)) e else st e) = 2 → st e = 2 ∧ ri e < x (rc e) := by
    intro e he h
    rw [if_pos he] at h
    have := rl_rb_2 h
    rw [hxL _ (hMs.1 e).2.2.1]
    exact this
  refine ⟨fun p hp => ?_, fun r s j hj => ?_, fun e he z => ?_, fun e he z => ?_, fun r s j hj => ?_, fun T _ y hy p hp => ?_⟩
  · show (if p < n ∧ L p < ct p then g p (L p) else iv p) ≤ 14
    have := i1 p hp
    rcases F p hp with f | f <;> omega
  · have hj' : 0 < if j < x r then H r s j else 0 := hj
    show r < n ∧ s < n ∧ r ≠ s ∧ j ≤ (if r < n ∧ L r < ct r then g r (L r) else iv r) ∧ (if j < x r then H r s j else 0) ≤ (if s < n ∧ L s < ct s then g s (L s) else iv s) + 1
    by_cases a : j < x r
    · rw [if_pos a] at hj' ⊢
      obtain ⟨b1, b2, b3, b4, b5⟩ := i2 r s j hj'
      have hc := hx.2.1 r (by omega) s (by omega) b3 j a
      refine ⟨b1, b2, b3, ?_, ?_⟩
      · rcases F r b1 with f | f <;> omega
      · rcases F s b2 with f | f <;> omega
    · rw [if_neg a] at hj'; omega
  · obtain ⟨a1, a2⟩ := hsx e he z
    obtain ⟨b1, b2⟩ := i3 e he a1
    refine ⟨b1, ?_⟩
    show si e ≤ if sd e < n ∧ L (sd e) < ct (sd e) then g (sd e) (L (sd e)) else iv (sd e)
    rcases F (sd e) (hMs.1 e).2.1 with f | f <;> omega
  · obtain ⟨a1, a2⟩ := hs2 e he z
    show si e + 1 ≤ if ri e < x (rc e) then H (rc e) (sd e) (ri e) else 0
    rw [if_pos a2]
    exact i4 e he a1
  · have hj' : 0 < if j < x r then H r s j else 0 := hj
    show (∃ e, e < m ∧ (if e < m then rl_rb st sd rc si ri (fun p => rl_G ct g iv p (L p)) e else st e) = 2 ∧ rc e = r ∧ sd e = s ∧ ri e = j ∧ si e + 1 = if j < x r then H r s j else 0) ∨
      ∀ M, rl_IsL 4 (rq_top n (fun p => if p < n ∧ L p < ct p then g p (L p) else iv p) (fun _ => true)) (rq_C (fun r s j => if j < x r then H r s j else 0)) M → (if j < x r then H r s j else 0) ≤ M s
    by_cases a : j < x r
    · rw [if_pos a] at hj' ⊢
      obtain ⟨b1, b2, b3, b4, b5⟩ := i2 r s j hj'
      have hc := hx.2.1 r (by omega) s (by omega) b3 j a
      rcases i5 r s j hj' with ⟨e, he, h2, w1, w2, w3, w4⟩ | w
      · refine Or.inl ⟨e, he, ?_, w1, w2, w3, w4⟩
        rw [if_pos he]
        refine rl_rb_i h2 ?_ ?_
        · show si e < rl_G ct g iv (sd e) (L (sd e))
          rw [← hxL _ (hMs.1 e).2.1, w2]; omega
        · show ri e < rl_G ct g iv (rc e) (L (rc e))
          rw [← hxL _ (hMs.1 e).2.2.1, w1, w3]; exact a
      · refine Or.inr (fun M hM => ?_)
        obtain ⟨Ma, hMa⟩ := rq_ex n iv (fun _ => true) H
        have hmx := rq_mono (T := D) (T' := fun _ => true) (fun _ _ _ => rfl) hx hMa
        refine Nat.le_trans (w Ma hMa) (hM.2.2 Ma (fun q hq => ?_) (fun r' hr' s' hs' hrs' j' hj2 => ?_) s (by omega))
        · by_cases b : q < n
          · rw [rq_top_t b rfl]
            show Ma q ≤ if q < n ∧ L q < ct q then g q (L q) else iv q
            have h1 := hMa.1 q hq
            rw [rq_top_t b rfl] at h1
            have h2 := hmx q hq
            rcases F q b with f | f <;> omega
          · have h1 := hMa.1 q hq
            rw [rq_top_o b] at h1 ⊢
            exact h1
        · show (if j' < x r' then H r' s' j' else 0) ≤ Ma s'
          have := hMa.2.1 r' hr' s' hs' hrs' j' hj2
          split <;> omega
    · rw [if_neg a] at hj'; omega
  · show y p = (if p < n ∧ L p < ct p then g p (L p) else iv p) + 1 ∨ ∃ k, k < (if p < n ∧ L p < ct p then L p + 1 else ct p) ∧ g p k = y p
    obtain ⟨z, hz⟩ := rq_ex n iv (fun q => T q || D q) H
    have hTD1 : ∀ q, D q = true → (fun q => T q || D q) q = true := by
      intro q h
      show (T q || D q) = true
      rw [h, Bool.or_true]
    have hTD2 : ∀ q, T q = true → (fun q => T q || D q) q = true := by
      intro q h
      show (T q || D q) = true
      rw [h, Bool.true_or]
    have hzx := rq_mono (T := D) (T' := fun q => T q || D q) (fun q _ h => hTD1 q h) hx hz
    have hyt : ∀ q, q < n → (T q = true → y q ≤ if q < n ∧ L q < ct q then g q (L q) else iv q) ∧ y q ≤ (if q < n ∧ L q < ct q then g q (L q) else iv q) + 1 := by
      intro q hq
      have h1 := hy.1 q (by omega)
      refine ⟨fun t => ?_, Nat.le_trans h1 rq_top_le⟩
      rw [rq_top_t hq t] at h1
      exact h1
    have hzt : ∀ q, q < n → (T q = true → z q ≤ iv q) := by
      intro q hq t
      have h1 := hz.1 q (by omega)
      rw [rq_top_t hq (hTD2 q t)] at h1
      exact h1
    have hw := hz.2.2 (fun q => if y q ≤ x q then y q else x q) (fun q hq => ?_) (fun r hr s hs hrs j hj => ?_)
    · have hzy := hy.2.2 z (fun q hq => ?_) (fun r hr s hs hrs j hj => ?_)
      · have hyp := hyt p hp
        have hwp : (if y p ≤ x p then y p else x p) ≤ z p := hw p (by omega)
        have hzyp := hzy p (by omega)
        have h6 := i6 (fun q => T q || D q) (fun q _ h => hTD1 q h) z hz p hp
        obtain ⟨s1, s2, s3, s4, s5⟩ := hS p hp
        rcases F p hp with f | f
        · obtain ⟨f1, f2, f3, f4, f5⟩ := f
          rw [f2] at hyp ⊢
          rw [f3]
          by_cases l : y p ≤ x p
          · rw [if_pos l] at hwp
            have e1 : y p = z p := by omega
            rcases h6 with h6 | ⟨k, hk, ek⟩
            · omega
            · refine Or.inr ⟨k, ?_, by omega⟩
              by_cases q : L p < k
              · have := s3 _ _ q hk; omega
              · omega
          · exact Or.inl (by omega)
        · obtain ⟨f1, f2, f3⟩ := f
          rw [f2] at hyp ⊢
          rw [f3]
          by_cases l : y p ≤ iv p
          · rw [if_pos (by omega)] at hwp
            have e1 : y p = z p := by omega
            rcases h6 with h6 | ⟨k, hk, ek⟩
            · omega
            · exact Or.inr ⟨k, hk, by omega⟩
          · exact Or.inl (by omega)
      · have h1 := hzx q hq
        by_cases b : q < n
        · by_cases t : T q = true
          · rw [rq_top_t b t]
            show z q ≤ if q < n ∧ L q < ct q then g q (L q) else iv q
            have h2 := hzt q b t
            rcases F q b with f | f <;> omega
          · rw [rq_top_f b t]
            show z q ≤ (if q < n ∧ L q < ct q then g q (L q) else iv q) + 1
            rcases F q b with f | f <;> omega
        · have h2 := hz.1 q hq
          rw [rq_top_o b] at h2 ⊢
          exact h2
      · show (if j < x r then H r s j else 0) ≤ z s
        have := hz.2.1 r hr s hs hrs j hj
        split <;> omega
    · show (if y q ≤ x q then y q else x q) ≤ _
      have hm1 : (if y q ≤ x q then y q else x q) ≤ x q := by split <;> omega
      have hm2 : (if y q ≤ x q then y q else x q) ≤ y q := by split <;> omega
      have h1 := hx.1 q hq
      by_cases b : q < n
      · by_cases t : (fun q => T q || D q) q = true
        · rw [rq_top_t b t]
          by_cases d : D q = true
          · rw [rq_top_t b d] at h1; omega
          · have t2 : T q = true := by
              have t' : (T q || D q) = true := t
              rw [Bool.or_eq_true] at t'
              exact t'.resolve_right d
            have h2 := (hyt q b).1 t2
            rcases F q b with f | f <;> omega
        · rw [rq_top_f b t]
          have h2 : x q ≤ iv q + 1 := Nat.le_trans h1 rq_top_le
          omega
      · rw [rq_top_o b] at h1 ⊢; omega
    · have hj' : j < if y r ≤ x r then y r else x r := hj
      show H r s j ≤ if y s ≤ x s then y s else x s
      have l1 : j < y r := by
        by_cases a : y r ≤ x r
        · rw [if_pos a] at hj'; exact hj'
        · rw [if_neg a] at hj'; omega
      have l2 : j < x r := by
        by_cases a : y r ≤ x r
        · rw [if_pos a] at hj'; omega
        · rw [if_neg a] at hj'; exact hj'
      have c1 : (if j < x r then H r s j else 0) ≤ y s := hy.2.1 r hr s hs hrs j l1
      rw [if_pos l2] at c1
      have c2 := hx.2.1 r hr s hs hrs j l2
      split <;> omega
end
