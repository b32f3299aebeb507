section
variable {n c m : Nat} {iv ct st sd rc si ri : Nat → Nat} {g : Nat → Nat → Nat}
variable {D : Nat → Bool} {H : Nat → Nat → Nat → Nat}
theorem rq_I_st (hI : rq_I n m iv ct g st sd rc si ri D H) {st' : Nat → Nat} (h : ∀ e, st' e = st e ∨ (st' e = 0 ∧ ¬ st e = 2)) : rq_I n m iv ct g st' sd rc si ri D H := by
  obtain ⟨i1, i2, i3, i4, i5, i6⟩ := hI
  refine ⟨i1, i2, fun e he z => ?_, fun e he z => ?_, fun r s j hj => ?_, i6⟩
  · rcases h e with a | a
    · exact i3 e he (by omega)
    · exact absurd a.1 z
  · rcases h e with a | a
    · exact i4 e he (by omega)
    · omega
  · rcases i5 r s j hj with ⟨e, he, h2, w⟩ | w
    · refine Or.inl ⟨e, he, ?_, w⟩
      rcases h e with a | a
      · omega
      · exact absurd h2 a.2
    · exact Or.inr w
theorem rq_I_send (hI : rq_I n m iv ct g st sd rc si ri D H) {e p q : Nat} (he0 : st e = 0) (hpq : p ≠ q) :
    rq_I n m iv ct g (rl_u st e 1) (rl_u sd e p) (rl_u rc e q) (rl_u si e (iv p)) ri D H := by
  obtain ⟨i1, i2, i3, i4, i5, i6⟩ := hI
  refine ⟨i1, i2, fun a ha z => ?_, fun a ha z => ?_, fun r s j hj => ?_, i6⟩
  · by_cases ae : a = e
    · rw [ae, rl_us, rl_us, rl_us]; exact ⟨hpq, Nat.le_refl _⟩
    · rw [rl_un ae] at z
      rw [rl_un ae, rl_un ae, rl_un ae]; exact i3 a ha z
  · by_cases ae : a = e
    · rw [ae, rl_us] at z; omega
    · rw [rl_un ae] at z
      rw [rl_un ae, rl_un ae, rl_un ae]; exact i4 a ha z
  · rcases i5 r s j hj with ⟨a, ha, h2, w⟩ | w
    · have ae : a ≠ e := by
        intro z
        rw [z] at h2; omega
      refine Or.inl ⟨a, ha, ?_⟩
      rw [rl_un ae, rl_un ae, rl_un ae, rl_un ae]
      exact ⟨h2, w⟩
    · exact Or.inr w
theorem rq_I_crash (hI : rq_I n m iv ct g st sd rc si ri D H) {D' : Nat → Bool} (h : ∀ p, p < n → D p = true → D' p = true) : rq_I n m iv ct g st sd rc si ri D' H := by
  obtain ⟨i1, i2, i3, i4, i5, i6⟩ := hI
  exact ⟨i1, i2, i3, i4, i5, fun T hT => i6 T (fun p hp z => hT p hp (h p hp z))⟩
theorem rq_I_check (n4 : n ≤ 4) (hI : rq_I n m iv ct g st sd rc si ri D H) {p : Nat} (hp : p < n) (hD : ¬ D p = true) (h14 : iv p < 14) :
    rq_I n m (rl_u iv p (iv p + 1)) (rl_u ct p (ct p + 1)) (rl_gC g p (ct p) (iv p + 1)) st sd rc si ri D H := by
  obtain ⟨i1, i2, i3, i4, i5, i6⟩ := hI
  have hge : ∀ q, iv q ≤ rl_u iv p (iv p + 1) q := by
    intro q
    by_cases e : q = p
    · rw [e, rl_us]; omega
    · rw [rl_un e]; exact Nat.le_refl _
  refine ⟨fun q hq => ?_, fun r s j hj => ?_, fun e he z => ?_, i4, fun r s j hj => ?_, fun T hT M' hM' => ?_⟩
  · by_cases e : q = p
    · rw [e, rl_us]; omega
    · rw [rl_un e]; exact i1 q hq
  · obtain ⟨b1, b2, b3, b4, b5⟩ := i2 r s j hj
    have h1 := hge r
    have h2 := hge s
    exact ⟨b1, b2, b3, by omega, by omega⟩
  · obtain ⟨b1, b2⟩ := i3 e he z
    exact ⟨b1, Nat.le_trans b2 (hge _)⟩
  · rcases i5 r s j hj with w | w
    · exact Or.inl w
    · refine Or.inr (fun M' hM' => ?_)
      obtain ⟨Ma, hMa⟩ := rq_ex n iv (fun _ => true) H
      refine Nat.le_trans (w Ma hMa) ?_
      have hs := (i2 r s j hj).2.1
      refine hM'.2.2 Ma (fun q hq => Nat.le_trans (hMa.1 q hq) ?_) hMa.2.1 s (by omega)
      by_cases a : q < n
      · rw [rq_top_t a rfl, rq_top_t a rfl]; exact hge q
      · rw [rq_top_o a]; exact Nat.zero_le _
  · obtain ⟨M0, hM0⟩ := rq_ex n iv (fun q => if q = p then false else T q) H
    have hT0 : ∀ q, q ≠ p → (fun q => if q = p then false else T q) q = T q := fun q hq => if_neg hq
    have hT0p : ¬ (fun q => if q = p then false else T q) p = true := by
      show ¬ (if p = p then false else T p) = true
      rw [if_pos rfl]; decide
    have htop : ∀ q, q ≠ p → rq_top n (rl_u iv p (iv p + 1)) T q = rq_top n iv (fun q => if q = p then false else T q) q := by
      intro q hq
      unfold rq_top
      rw [rl_un hq]
      show (if q < n then (if T q = true then iv q else iv q + 1) else 0) = (if q < n then (if (if q = p then false else T q) = true then iv q else iv q + 1) else 0)
      rw [if_neg hq]
    have htp : rq_top n iv (fun q => if q = p then false else T q) p = iv p + 1 := rq_top_f hp hT0p
    have htp' : iv p + 1 ≤ rq_top n (rl_u iv p (iv p + 1)) T p := by
      by_cases a : T p = true
      · rw [rq_top_t hp a, rl_us]; exact Nat.le_refl _
      · rw [rq_top_f hp a, rl_us]; omega
    have h0p := hM0.1 p (by omega)
    rw [htp] at h0p
    have hz := hM'.2.2 (fun q => if q = p ∧ M0 p = iv p + 1 then rq_top n (rl_u iv p (iv p + 1)) T p else M0 q) (fun q hq => ?_) (fun r hr s hs hrs j hj => ?_)
    · have hw := hM0.2.2 (fun q => if q = p ∧ iv p + 1 < M' p then iv p + 1 else M' q) (fun q hq => ?_) (fun r hr s hs hrs j hj => ?_)
      · have hDT : ∀ q, q < n → D q = true → (fun q => if q = p then false else T q) q = true := by
          intro q hq hd
          by_cases e : q = p
          · rw [e] at hd; exact absurd hd hD
          · rw [hT0 q e]; exact hT q hq hd
        intro q hq
        have z1 : (if q = p ∧ M0 p = iv p + 1 then rq_top n (rl_u iv p (iv p + 1)) T p else M0 q) ≤ M' q := hz q (by omega)
        have w1 : (if q = p ∧ iv p + 1 < M' p then iv p + 1 else M' q) ≤ M0 q := hw q (by omega)
        have h6 := i6 _ hDT M0 hM0 q hq
        by_cases e : q = p
        · rw [e] at z1 w1 h6 ⊢
          rw [rl_us, rl_us]
          by_cases f : M0 p = iv p + 1
          · rw [if_pos ⟨rfl, f⟩] at z1
            have t1 := hM'.1 p (by omega)
            by_cases a : T p = true
            · rw [rq_top_t hp a, rl_us] at z1 t1
              exact Or.inr ⟨ct p, by omega, by rw [rl_gC_s]; omega⟩
            · rw [rq_top_f hp a, rl_us] at z1 t1
              exact Or.inl (by omega)
          · rw [if_neg (fun z => f z.2)] at z1
            have l : ¬ (p = p ∧ iv p + 1 < M' p) := by
              intro z
              rw [if_pos z] at w1
              omega
            rw [if_neg l] at w1
            have e2 : M' p = M0 p := by omega
            rcases h6 with h6 | ⟨k, hk, ek⟩
            · exact absurd h6 f
            · refine Or.inr ⟨k, by omega, ?_⟩
              rw [rl_gC_n (fun z => by omega), e2]; exact ek
        · rw [if_neg (fun z => e z.1)] at z1 w1
          have e2 : M' q = M0 q := by omega
          rw [rl_un e, rl_un e, e2]
          rcases h6 with h6 | ⟨k, hk, ek⟩
          · exact Or.inl h6
          · refine Or.inr ⟨k, hk, ?_⟩
            rw [rl_gC_n (fun z => e z.1)]; exact ek
      · show (if q = p ∧ iv p + 1 < M' p then iv p + 1 else M' q) ≤ _
        by_cases e : q = p
        · rw [e, htp]
          split <;> omega
        · rw [if_neg (fun z => e z.1), ← htop q e]
          exact hM'.1 q hq
      · have hj' : j < if r = p ∧ iv p + 1 < M' p then iv p + 1 else M' r := hj
        show H r s j ≤ if s = p ∧ iv p + 1 < M' p then iv p + 1 else M' s
        have hj2 : j < M' r := by
          by_cases a : r = p ∧ iv p + 1 < M' p
          · rw [if_pos a] at hj'; rw [a.1]; omega
          · rw [if_neg a] at hj'; exact hj'
        have hc := hM'.2.1 r hr s hs hrs j hj2
        by_cases a : s = p ∧ iv p + 1 < M' p
        · rw [if_pos a]
          by_cases z : H r s j = 0
          · omega
          · have := (i2 r s j (by omega)).2.2.2.2
            rw [a.1] at this ⊢
            exact this
        · rw [if_neg a]; exact hc
    · show (if q = p ∧ M0 p = iv p + 1 then rq_top n (rl_u iv p (iv p + 1)) T p else M0 q) ≤ _
      by_cases e : q = p
      · rw [e]
        by_cases f : M0 p = iv p + 1
        · rw [if_pos ⟨rfl, f⟩]; exact Nat.le_refl _
        · rw [if_neg (fun z => f z.2)]; omega
      · rw [if_neg (fun z => e z.1), htop q e]
        exact hM0.1 q hq
    · have hj' : j < if r = p ∧ M0 p = iv p + 1 then rq_top n (rl_u iv p (iv p + 1)) T p else M0 r := hj
      show H r s j ≤ if s = p ∧ M0 p = iv p + 1 then rq_top n (rl_u iv p (iv p + 1)) T p else M0 s
      have hs0 : M0 s ≤ if s = p ∧ M0 p = iv p + 1 then rq_top n (rl_u iv p (iv p + 1)) T p else M0 s := by
        by_cases a : s = p ∧ M0 p = iv p + 1
        · rw [if_pos a, a.1]; omega
        · rw [if_neg a]; exact Nat.le_refl _
      by_cases l : j < M0 r
      · exact Nat.le_trans (hM0.2.1 r hr s hs hrs j l) hs0
      · by_cases z : H r s j = 0
        · omega
        · exfalso
          have hb := (i2 r s j (by omega)).2.2.2.1
          by_cases a : r = p ∧ M0 p = iv p + 1
          · rw [a.1] at hb l; omega
          · rw [if_neg a] at hj'; exact l hj'
def rq_put (H : Nat → Nat → Nat → Nat) (r s j u : Nat) : Nat → Nat → Nat → Nat := fun a b i => if (a = r ∧ b = s ∧ i = j) ∧ H r s j < u then u else H a b i
theorem rq_I_deliver (n4 : n ≤ 4) (hMs : rl_Msg n m iv st sd rc si ri) (hI : rq_I n m iv ct g st sd rc si ri D H) {e : Nat} (he : e < m) (h1 : st e = 1) :
    rq_I n m iv ct g (rl_u st e 2) sd rc si (rl_u ri e (iv (rc e))) D (rq_put H (rc e) (sd e) (iv (rc e)) (si e + 1)) := by
  obtain ⟨i1, i2, i3, i4, i5, i6⟩ := hI
  obtain ⟨t1, t2, t3, t4, t5⟩ := hMs.1 e
  obtain ⟨e1, e2⟩ := i3 e he (by omega)
  have hge : ∀ a b i, H a b i ≤ rq_put H (rc e) (sd e) (iv (rc e)) (si e + 1) a b i := by
    intro a b i
    unfold rq_put
    by_cases z : (a = rc e ∧ b = sd e ∧ i = iv (rc e)) ∧ H (rc e) (sd e) (iv (rc e)) < si e + 1
    · rw [if_pos z, z.1.1, z.1.2.1, z.1.2.2]; omega
    · rw [if_neg z]; exact Nat.le_refl _
  have hcell : si e + 1 ≤ rq_put H (rc e) (sd e) (iv (rc e)) (si e + 1) (rc e) (sd e) (iv (rc e)) := by
    unfold rq_put
    by_cases z : H (rc e) (sd e) (iv (rc e)) < si e + 1
    · rw [if_pos ⟨⟨rfl, rfl, rfl⟩, z⟩]; exact Nat.le_refl _
    · rw [if_neg (fun w => z w.2)]; omega
  have hCC : ∀ y, rq_C (rq_put H (rc e) (sd e) (iv (rc e)) (si e + 1)) y → rq_C H y := fun y hy r hr s hs hrs j hj => Nat.le_trans (hge r s j) (hy r hr s hs hrs j hj)
  have hCn : ∀ y, rq_C H y → (iv (rc e) < y (rc e) → si e + 1 ≤ y (sd e)) → rq_C (rq_put H (rc e) (sd e) (iv (rc e)) (si e + 1)) y := by
    intro y hy hn r hr s hs hrs j hj
    unfold rq_put
    by_cases z : (r = rc e ∧ s = sd e ∧ j = iv (rc e)) ∧ H (rc e) (sd e) (iv (rc e)) < si e + 1
    · rw [if_pos z]
      rw [z.1.1, z.1.2.2] at hj
      rw [z.1.2.1]
      exact hn hj
    · rw [if_neg z]; exact hy r hr s hs hrs j hj
  refine ⟨i1, fun r s j hj => ?_, fun a ha z => ?_, fun a ha z => ?_, fun r s j hj => ?_, fun T hT M' hM' => ?_⟩
  · unfold rq_put at hj ⊢
    by_cases z : (r = rc e ∧ s = sd e ∧ j = iv (rc e)) ∧ H (rc e) (sd e) (iv (rc e)) < si e + 1
    · rw [if_pos z, z.1.1, z.1.2.1, z.1.2.2]
      exact ⟨t3, t2, fun w => e1 w.symm, Nat.le_refl _, by omega⟩
    · rw [if_neg z] at hj ⊢; exact i2 r s j hj
  · by_cases ae : a = e
    · rw [ae]; exact ⟨e1, e2⟩
    · rw [rl_un ae] at z; exact i3 a ha z
  · by_cases ae : a = e
    · rw [ae, rl_us]; exact hcell
    · rw [rl_un ae] at z ⊢
      exact Nat.le_trans (i4 a ha z) (hge _ _ _)
  · by_cases z : (r = rc e ∧ s = sd e ∧ j = iv (rc e)) ∧ H (rc e) (sd e) (iv (rc e)) < si e + 1
    · refine Or.inl ⟨e, he, rl_us, z.1.1.symm, z.1.2.1.symm, by rw [rl_us]; exact z.1.2.2.symm, ?_⟩
      unfold rq_put
      rw [if_pos z]
    · have hH : rq_put H (rc e) (sd e) (iv (rc e)) (si e + 1) r s j = H r s j := if_neg z
      rw [hH] at hj ⊢
      rcases i5 r s j hj with ⟨a, ha, h2, w1, w2, w3, w4⟩ | w
      · have ae : a ≠ e := by
          intro y
          rw [y] at h2; omega
        exact Or.inl ⟨a, ha, by rw [rl_un ae]; exact h2, w1, w2, by rw [rl_un ae]; exact w3, w4⟩
      · refine Or.inr (fun M' hM' => ?_)
        obtain ⟨Ma, hMa⟩ := rq_ex n iv (fun _ => true) H
        have hs := (i2 r s j hj).2.1
        refine Nat.le_trans (w Ma hMa) (hM'.2.2 Ma hMa.1 (hCn Ma hMa.2.1 (fun y => ?_)) s (by omega))
        have := hMa.1 (rc e) (by omega)
        rw [rq_top_t t3 rfl] at this
        omega
  · obtain ⟨M0, hM0⟩ := rq_ex n iv T H
    have hle0 := hM0.2.2 M' hM'.1 (hCC M' hM'.2.1)
    by_cases A : iv (rc e) < M0 (rc e) → si e + 1 ≤ M0 (sd e)
    · have hge0 := hM'.2.2 M0 hM0.1 (hCn M0 hM0.2.1 A)
      intro p hp
      have a1 := hle0 p (by omega)
      have a2 := hge0 p (by omega)
      have a3 : M' p = M0 p := by omega
      rw [a3]
      exact i6 T hT M0 hM0 p hp
    · have A1 : iv (rc e) < M0 (rc e) ∧ ¬ si e + 1 ≤ M0 (sd e) := by
        refine ⟨?_, fun y => A (fun _ => y)⟩
        apply Classical.byContradiction
        intro y
        exact A (fun w => absurd w y)
      obtain ⟨M1, hM1⟩ := rq_ex n iv (fun q => if q = rc e then true else T q) H
      have hT1r : (fun q => if q = rc e then true else T q) (rc e) = true := by
        show (if rc e = rc e then true else T (rc e)) = true
        rw [if_pos rfl]
      have hT1 : ∀ q, q < n → T q = true → (fun q => if q = rc e then true else T q) q = true := by
        intro q _ hq
        show (if q = rc e then true else T q) = true
        split
        · rfl
        · exact hq
      have h1r := hM1.1 (rc e) (by omega)
      rw [rq_top_t t3 hT1r] at h1r
      have hr' : M' (rc e) ≤ iv (rc e) := by
        apply Classical.byContradiction
        intro y
        have y1 := hM'.2.1 (rc e) (by omega) (sd e) (by omega) (fun w => e1 w.symm) (iv (rc e)) (by omega)
        have y2 := hle0 (sd e) (by omega)
        omega
      have hA := hM1.2.2 M' (fun q hq => ?_) (hCC M' hM'.2.1)
      · have hB := hM'.2.2 M1 (fun q hq => ?_) (hCn M1 hM1.2.1 (fun y => absurd y (by omega)))
        · intro p hp
          have a1 := hA p (by omega)
          have a2 := hB p (by omega)
          have a3 : M' p = M1 p := by omega
          rw [a3]
          exact i6 _ (fun q hq hd => hT1 q hq (hT q hq hd)) M1 hM1 p hp
        · by_cases a : q < n
          · by_cases b : T q = true
            · have := hM1.1 q hq
              rw [rq_top_t a (hT1 q a b)] at this
              rw [rq_top_t a b]; exact this
            · rw [rq_top_f a b]
              exact Nat.le_trans (hM1.1 q hq) rq_top_le
          · have := hM1.1 q hq
            rw [rq_top_o a] at this ⊢
            exact this
      · by_cases a : q < n
        · by_cases b : q = rc e
          · rw [b, rq_top_t t3 hT1r]; exact hr'
          · have h3 := hM'.1 q hq
            by_cases d : T q = true
            · rw [rq_top_t a d] at h3
              rw [rq_top_t a (hT1 q a d)]; exact h3
            · rw [rq_top_f a d] at h3
              have d' : ¬ (fun q => if q = rc e then true else T q) q = true := by
                show ¬ (if q = rc e then true else T q) = true
                rw [if_neg b]; exact d
              rw [rq_top_f a d']; exact h3
        · have h3 := hM'.1 q hq
          rw [rq_top_o a] at h3 ⊢
          exact h3
end
