theorem rl_mn {n p : Nat} {f : Nat → Bool} {a b : Nat → Int32} : rl_mix n (rl_nf f a b) b p = if p < n ∧ f p = true then a p else b p := by
  by_cases h : p < n
  · rw [rl_mix_lt h]
    by_cases e : f p = true
    · rw [if_pos ⟨h, e⟩]; exact if_pos e
    · rw [if_neg (fun z => e z.2)]; exact if_neg e
  · rw [rl_mix_ge (by omega), if_neg (fun z => h z.1)]
theorem rl_or_ext {f h : Nat → Bool} : ∀ n, (∀ p, p < n → f p = h p) → rl_or f n = rl_or h n := by
  intro n
  induction n with
  | zero => intro _; rfl
  | succ n ih =>
    intro e
    have h1 := ih (fun p hp => e p (by omega))
    have h2 := e n (by omega)
    by_cases a : f n = true
    · rw [rl_or_t a, rl_or_t (by rw [← h2]; exact a), h1]
    · rw [rl_or_f a, rl_or_f (by rw [← h2]; exact a), h1]
theorem rl_or_0 : ∀ n, rl_or (fun _ => false) n = 0 := by
  intro n
  induction n with
  | zero => rfl
  | succ n ih => rw [rl_or_f (by decide)]; exact ih
section
variable {n c m : Nat} {iv ct st sd rc si ri : Nat → Nat} {g : Nat → Nat → Nat}
variable {vX IV U CT NB SV ST SD RC PL SI RI LN ND SE : Nat → Int32}
theorem rl_rb_ext {x y : Nat → Nat} {e : Nat} (h1 : x (sd e) = y (sd e)) (h2 : x (rc e) = y (rc e)) : rl_rb st sd rc si ri x e = rl_rb st sd rc si ri y e := by
  unfold rl_rb
  rw [h1, h2]
theorem rl_rb_le {x : Nat → Nat} {e : Nat} (h : st e ≤ 2) : rl_rb st sd rc si ri x e ≤ 2 := by
  unfold rl_rb
  split
  · omega
  · split
    · split <;> omega
    · omega
theorem rq_A_recover (hA : rl_A n c m iv ct g st sd rc si ri IV CT NB ST SD RC SI RI) {T : Int32} {L : Nat → Nat} (hL : rl_IsL n (rl_tp ct T) (rl_C m iv ct g st sd rc si ri) L) :
    rl_A n c m (fun p => if p < n ∧ L p < ct p then g p (L p) else iv p) (fun p => if p < n ∧ L p < ct p then L p + 1 else ct p) g
      (fun s => if s < m then rl_rb st sd rc si ri (fun p => rl_G ct g iv p (L p)) s else st s) sd rc si ri
      (rl_mix n (rl_nf (rl_rl ct L) (fun p => nI (g p (L p))) IV) IV) (rl_mix n (rl_nf (rl_rl ct L) (fun p => nI (L p + 1)) CT) CT) NB
      (rl_mix m (fun s => nI (rl_rb st sd rc si ri (fun p => rl_G ct g iv p (L p)) s)) ST) SD RC SI RI := by
  have hA' := hA
  obtain ⟨hW, hIV, hCT, hNB, hST, hSD, hRC, hSI, hRI⟩ := hA'
  have hW' := hW
  obtain ⟨⟨⟨n2, n4⟩, ⟨c3h, c8⟩, ⟨m4, m16⟩⟩, hS, hM, hB⟩ := hW'
  have hrl : ∀ p, rl_rl ct L p = true ↔ L p < ct p := fun p => decide_eq_true_iff
  have hW2 := rl_W_recover hW hL (iv' := fun p => if p < n ∧ L p < ct p then g p (L p) else iv p) (ct' := fun p => if p < n ∧ L p < ct p then L p + 1 else ct p)
    (st' := fun s => if s < m then rl_rb st sd rc si ri (fun p => rl_G ct g iv p (L p)) s else st s)
    (fun p hp => ⟨fun h => ⟨if_pos ⟨hp, h⟩, if_pos ⟨hp, h⟩⟩, fun h => ⟨if_neg (fun z => h z.2), if_neg (fun z => h z.2)⟩⟩)
    (fun s => by
      have h1 := (hM.1 s).1
      have h2 : rl_rb st sd rc si ri (fun p => rl_G ct g iv p (L p)) s ≤ 2 := rl_rb_le h1
      show (if s < m then rl_rb st sd rc si ri (fun p => rl_G ct g iv p (L p)) s else st s) ≤ 2
      split <;> omega)
    (fun s hs h => by
      have h' : (if s < m then rl_rb st sd rc si ri (fun p => rl_G ct g iv p (L p)) s else st s) = 2 := h
      rw [if_pos hs] at h'
      exact rl_rb_2 h')
  refine ⟨hW2, fun p => ?_, fun p => ?_, fun p hp k hk => ?_, fun s => ?_, hSD, hRC, hSI, hRI⟩
  · rw [rl_mn]
    by_cases h : p < n ∧ L p < ct p
    · rw [if_pos ⟨h.1, (hrl p).mpr h.2⟩]
      show _ = nI (if p < n ∧ L p < ct p then g p (L p) else iv p)
      rw [if_pos h]
    · rw [if_neg (fun z => h ⟨z.1, (hrl p).mp z.2⟩)]
      show _ = nI (if p < n ∧ L p < ct p then g p (L p) else iv p)
      rw [if_neg h]
      exact hIV p
  · rw [rl_mn]
    by_cases h : p < n ∧ L p < ct p
    · rw [if_pos ⟨h.1, (hrl p).mpr h.2⟩]
      show _ = nI (if p < n ∧ L p < ct p then L p + 1 else ct p)
      rw [if_pos h]
    · rw [if_neg (fun z => h ⟨z.1, (hrl p).mp z.2⟩)]
      show _ = nI (if p < n ∧ L p < ct p then L p + 1 else ct p)
      rw [if_neg h]
      exact hCT p
  · refine hNB p hp k ?_
    have hk' : k < if p < n ∧ L p < ct p then L p + 1 else ct p := hk
    by_cases h : p < n ∧ L p < ct p
    · rw [if_pos h] at hk'; omega
    · rw [if_neg h] at hk'; exact hk'
  · show _ = nI (if s < m then rl_rb st sd rc si ri (fun p => rl_G ct g iv p (L p)) s else st s)
    by_cases h : s < m
    · rw [rl_mix_lt h, if_pos h]
    · rw [rl_mix_ge (by omega), if_neg h]; exact hST s
end
section
variable {n c m : Nat} {iv ct st sd rc si ri : Nat → Nat} {g : Nat → Nat → Nat}
variable {vX IV U CT NB SV ST SD RC PL SI RI LN ND SE : Nat → Int32}
variable {post : Int32 → Prop} {L kc ks kk : Nat} {xs : Nat → Int32} {x1 dn : Int32} {zI zS zW zN zR a1 a2 a3 b0 b2 b3 c0 c1 c3 d0 d1 d2 : Int64} {H : Nat → Nat → Nat → Nat}
theorem rq_R_topD (hR : rq_R n c m iv ct g st sd rc si ri H zI zS zW zN zR a1 a2 a3 b0 b2 b3 c0 c1 c3 d0 d1 d2 dn IV U CT NB ST SD RC SI RI) : rq_top n iv (fun p => bt dn p) = rq_top n iv (rl_dn U) := by
  funext p
  unfold rq_top
  by_cases a : p < n
  · rw [if_pos a, if_pos a]
    show (if bt dn p = true then iv p else iv p + 1) = _
    rw [hR.2.2.2.2.2.2.2 p a]
  · rw [if_neg a, if_neg a]
theorem lq_recfin {J : Int64 → Int64 → Int64 → Int64 → Int64 → Int64 → Int64 → Int64 → Int64 → Int64 → Int64 → Int64 → Int64 → Int64 → Int64 → Int64 → Int64 → Int32 → Int32 → Int32 → Int32 → Int32 → (Nat → Int32) → (Nat → Int32) → (Nat → Int32) → (Nat → Int32) → (Nat → Int32) → (Nat → Int32) → (Nat → Int32) → (Nat → Int32) → (Nat → Int32) → (Nat → Int32) → (Nat → Int32) → (Nat → Int32) → (Nat → Int32) → (Nat → Int32) → (Nat → Int32) → Prop} (hJ : rq_J n c m kk J) (hL : L ≤ 260) (hkk : kk ≤ 1000) (hR : rq_R n c m iv ct g st sd rc si ri H zI zS zW zN zR a1 a2 a3 b0 b2 b3 c0 c1 c3 d0 d1 d2 dn IV U CT NB ST SD RC SI RI) {M : Nat → Nat} (hMM : rl_IsL 4 (rq_top n iv (rl_dn U)) (rq_C H) M) {yI yS y1 y2 y3 y4 y5 y6 y7 y8 y9 y10 y11 y12 : Int64}
    (h1 : ∀ p, p < 4 → nk_v yI p = if p < n ∧ M p ≤ iv p then M p else if p < n then iv p else 0) (h2 : ∀ e, e < m → nk_v yS e = rl_rb st sd rc si ri M e)
    (h3 : rq_Hs (fun r s j => if j < M r then H r s j else 0) y1 y2 y3 y4 y5 y6 y7 y8 y9 y10 y11 y12) {post2 : Int32 → St2 → Prop}
    (hp2 : ∀ vX IV U CT NB SV ST SD RC PL SI RI LN ND SE : Nat → Int32, (∃ fu, wL_law_1332 post L xs J x1 (nI n) (nI m) yI yS zW zN zR y1 y2 y3 y4 y5 y6 y7 y8 y9 y10 y11 y12 0 (nI kk) kc ks (nI n) (nI c) (nI m) vX IV U CT NB SV ST SD RC PL SI RI LN ND SE fu 0) → post2 (rl_or (fun p => decide (M p ≤ iv p)) n) (nI n, nI c, nI m, vX, IV, U, CT, NB, SV, ST, SD, RC, PL, SI, RI, LN, ND, SE)) :
    wpX_recover post2 (nI n, nI c, nI m, vX, IV, U, CT, NB, SV, ST, SD, RC, PL, SI, RI, LN, ND, SE) := by
  have hR' := hR
  obtain ⟨hA, hI, hH, hzI, hzS, hzW, hzR, hdn⟩ := hR'
  have hA' := hA
  obtain ⟨hW, hIV, hCT, hNB, hST, hSD, hRC, hSI, hRI⟩ := hA'
  have hW' := hW
  obtain ⟨⟨⟨n2, n4⟩, ⟨c3h, c8⟩, ⟨m4, m16⟩⟩, hS, hM, hB⟩ := hW'
  have hIc := hI
  obtain ⟨i1, i2, i3, i4, i5, i6⟩ := hIc
  obtain ⟨Lx, hLx⟩ := rl_exL hW (rl_or (rl_dn U) n)
  have hTX : ∀ q, q < n → (rl_dn U q = true ↔ ¬ (rl_or (rl_dn U) n &&& ((1 : Int32) <<< (nI q &&& 31))) = 0) := by
    intro q hq
    rw [bq_shl _ (by omega), bq_or _ (by omega) n (by omega)]
    cases rl_dn U q <;> simp [hq]
  have hEq := rq_eq hW hI (fun _ _ h => h) hTX hMM hLx
  have hrl : ∀ p, p < n → (fun p => decide (M p ≤ iv p)) p = rl_rl ct Lx p := by
    intro p hp
    have h := hEq p hp
    by_cases a : Lx p < ct p
    · rw [rl_G_in a] at h
      have := (hS p hp).2.2.2.1 _ a
      exact (decide_eq_true (by omega)).trans (decide_eq_true a).symm
    · rw [rl_G_now a] at h
      exact (decide_eq_false (by omega)).trans (decide_eq_false a).symm
  have hor := rl_or_ext n hrl
  refine rx_recover hA hLx (fun z => ?_) (fun z LN1 => ?_)
  · have hup : ∀ p, p < n → rl_dn U p = false := by
      intro p hp
      have h := bq_or (rl_dn U) (p := p) (by omega) n (by omega)
      rw [z, b_0] at h
      simpa [hp] using h.symm
    have hM1 : ∀ p, p < n → M p = iv p + 1 := by
      intro p hp
      have hC : rq_C H (rq_top n iv (rl_dn U)) := by
        intro r hr s hs hrs j hj
        by_cases y : H r s j = 0
        · omega
        · obtain ⟨b1, b2, b3, b4, b5⟩ := i2 r s j (by omega)
          rw [rq_top_f b2 (by rw [hup s b2]; decide)]
          exact b5
      have h5 := hMM.2.2 _ (fun q _ => Nat.le_refl _) hC p (by omega)
      have h6 := hMM.1 p (by omega)
      rw [rq_top_f hp (by rw [hup p hp]; decide)] at h5 h6
      omega
    have hw0 : rl_or (fun p => decide (M p ≤ iv p)) n = 0 := by
      rw [rl_or_ext (h := fun _ => false) n (fun p hp => decide_eq_false (by have := hM1 p hp; omega))]
      exact rl_or_0 n
    have := hp2 vX IV U CT NB SV ST SD RC PL SI RI LN ND SE (lq_go hJ hL hkk (iv := iv) (ct := ct) (g := g) (st := st) (sd := sd) (rc := rc) (si := si) (ri := ri) (H := H) ?_)
    · rw [hw0] at this
      exact this
    · refine ⟨hA, hI, fun j hj => ?_, fun p hp => ?_, fun e he => ?_, hzW, hzR, fun p hp => ?_⟩
      · have hk : ∀ r s, (if j < M r then H r s j else 0) = H r s j := by
          intro r s
          by_cases y : H r s j = 0
          · rw [y]; split <;> rfl
          · obtain ⟨b1, b2, b3, b4, b5⟩ := i2 r s j (by omega)
            have := hM1 r b1
            rw [if_pos (by omega)]
        have h4 := h3 j hj
        simp only [hk] at h4
        exact h4
      · rw [h1 p hp]
        by_cases a : p < n
        · rw [if_neg (fun y => by have := hM1 p a; omega)]
        · rw [if_neg (fun y => a y.1)]
      · obtain ⟨t1, t2, t3, t4, t5⟩ := hM.1 e
        rw [h2 e he]
        unfold rl_rb
        by_cases y : st e = 0
        · rw [if_pos y, y]
        · have g1 := (i3 e he y).2
          have g2 := hM1 _ t2
          rw [if_neg y, if_pos (by omega)]
          refine if_neg (fun w => w.2 ?_)
          have g3 := hM.2 e he w.1
          have g4 := hM1 _ t3
          omega
      · rw [b_0, hup p hp]
  · have := hp2 _ _ _ _ _ _ _ _ _ _ _ _ _ _ _ (lq_go (kc := kc) (ks := ks) (post := post) (xs := xs) (x1 := x1) (zW := zW) (zN := zN) (zR := zR) (LN := LN1) (ND := ND) (SE := SE) (PL := PL) (SV := SV) (vX := rl_mix n (rl_nf (rl_rl ct Lx) (fun p => SV (p * 8 + Lx p)) vX) vX) hJ hL hkk
      (H := fun r s j => if j < M r then H r s j else 0) (zI := yI) (zS := yS) (dn := 0) (U := rl_mix n (fun _ => 1) U)
      ⟨rq_A_recover hA hLx, rq_I_crash (rq_I_recover n4 hS hM hI hMM hEq) (fun _ _ w => absurd w (by decide)), h3, fun p hp => ?_, fun e he => ?_, fun e he y => ?_, fun e he y => ?_, fun p hp => ?_⟩)
    · rw [hor] at this
      exact this
    · rw [h1 p hp]
      show _ = if p < n then (if p < n ∧ Lx p < ct p then g p (Lx p) else iv p) else 0
      by_cases a : p < n
      · simp only [a, true_and, if_true]
        have h := hEq p a
        by_cases b : Lx p < ct p
        · rw [rl_G_in b] at h
          have := (hS p a).2.2.2.1 _ b
          rw [if_pos (show M p ≤ iv p by omega), if_pos b, h]
        · rw [rl_G_now b] at h
          rw [if_neg (show ¬ M p ≤ iv p by omega), if_neg b]
      · rw [if_neg (fun y => a y.1), if_neg a, if_neg a]
    · obtain ⟨t1, t2, t3, t4, t5⟩ := hM.1 e
      show nk_v yS e = if e < m then rl_rb st sd rc si ri (fun p => rl_G ct g iv p (Lx p)) e else st e
      rw [if_pos he, h2 e he]
      exact rl_rb_ext (hEq _ t2) (hEq _ t3)
    · have y' : ¬ (if e < m then rl_rb st sd rc si ri (fun p => rl_G ct g iv p (Lx p)) e else st e) = 0 := y
      rw [if_pos he] at y'
      exact hzW e he (rl_rb_0 y').1
    · have y' : (if e < m then rl_rb st sd rc si ri (fun p => rl_G ct g iv p (Lx p)) e else st e) = 2 := y
      rw [if_pos he] at y'
      exact hzR e he (rl_rb_2 y').1
    · rw [b_0]
      unfold rl_dn
      rw [rl_mix_lt hp]
      decide
theorem lq_943 {J : Int64 → Int64 → Int64 → Int64 → Int64 → Int64 → Int64 → Int64 → Int64 → Int64 → Int64 → Int64 → Int64 → Int64 → Int64 → Int64 → Int64 → Int32 → Int32 → Int32 → Int32 → Int32 → (Nat → Int32) → (Nat → Int32) → (Nat → Int32) → (Nat → Int32) → (Nat → Int32) → (Nat → Int32) → (Nat → Int32) → (Nat → Int32) → (Nat → Int32) → (Nat → Int32) → (Nat → Int32) → (Nat → Int32) → (Nat → Int32) → (Nat → Int32) → (Nat → Int32) → Prop} (hJ : rq_J n c m kk J) (hL : L ≤ 260) (hkk : kk ≤ 1000) (hR : rq_R n c m iv ct g st sd rc si ri H zI zS zW zN zR a1 a2 a3 b0 b2 b3 c0 c1 c3 d0 d1 d2 dn IV U CT NB ST SD RC SI RI) {M : Nat → Nat} (hMM : rl_IsL 4 (rq_top n iv (rl_dn U)) (rq_C H) M) {z yS : Int64} (hz : ∀ p, p < 4 → nk_v z p = M p)
    (h2 : ∀ e, e < m → nk_v yS e = rl_rb st sd rc si ri M e) :
    ∀ (fu i : Nat) (yI : Int64), n < fu + i → i ≤ n → (∀ p, p < 4 → nk_v yI p = if p < i ∧ M p ≤ iv p then M p else if p < n then iv p else 0) →
      wL_law_943 post L xs J x1 (nI n) (nI m) yS zW zN zR a1 a2 a3 b0 b2 b3 c0 c1 c3 d0 d1 d2 (nI kk) z kc ks (nI n) (nI c) (nI m) vX IV U CT NB SV ST SD RC PL SI RI LN ND SE fu yI (rl_or (fun p => decide (M p ≤ iv p)) i) (nI i) := by
  have n4 := hR.1.1.1.1.2
  have hM16 : ∀ p, p < 4 → M p < 16 := fun p hp => by rw [← hz p hp]; exact nk_lt z p
  have hH := hR.2.2.1
  intro fu
  induction fu with
  | zero => intro i yI q1 q2; omega
  | succ fu ih =>
    intro i yI q1 q2 q3
    rw [wL_law_943]
    by_cases e : n ≤ i
    · have e2 : i = n := by omega
      refine br_t (nI_le e (by omega)) ?_
      refine wl_nib (i := 0) (by omega) ?_
      refine wl_nib (i := 1) (by omega) ?_
      refine wl_nib (i := 2) (by omega) ?_
      refine wl_nib (i := 3) (by omega) ?_
      rw [hz 0 (by omega), hz 1 (by omega), hz 2 (by omega), hz 3 (by omega)]
      have m0 := hM16 0 (by omega)
      have m1 := hM16 1 (by omega)
      have m2 := hM16 2 (by omega)
      have m3 := hM16 3 (by omega)
      refine wl_keep m0 (fun w1 r1 => ?_)
      refine wl_keep m0 (fun w2 r2 => ?_)
      refine wl_keep m0 (fun w3 r3 => ?_)
      refine wl_keep m1 (fun w4 r4 => ?_)
      refine wl_keep m1 (fun w5 r5 => ?_)
      refine wl_keep m1 (fun w6 r6 => ?_)
      refine wl_keep m2 (fun w7 r7 => ?_)
      refine wl_keep m2 (fun w8 r8 => ?_)
      refine wl_keep m2 (fun w9 r9 => ?_)
      refine wl_keep m3 (fun w10 r10 => ?_)
      refine wl_keep m3 (fun w11 r11 => ?_)
      refine wl_keep m3 (fun w12 r12 => ?_)
      rw [e2] at q3
      rw [e2]
      refine lq_recfin (kc := kc) (ks := ks) (post := post) (xs := xs) (x1 := x1) (zW := zW) (zN := zN) (zR := zR) (y1 := w1) (y2 := w2) (y3 := w3) (y4 := w4) (y5 := w5) (y6 := w6) (y7 := w7) (y8 := w8) (y9 := w9) (y10 := w10) (y11 := w11) (y12 := w12) hJ hL hkk hR hMM q3 h2 (fun j hj => ?_) (fun vX1 IV1 U1 CT1 NB1 SV1 ST1 SD1 RC1 PL1 SI1 RI1 LN1 ND1 SE1 hh => br_t rfl hh)
      obtain ⟨k1, k2, k3, k4, k5, k6, k7, k8, k9, k10, k11, k12⟩ := hH j hj
      refine ⟨?_, ?_, ?_, ?_, ?_, ?_, ?_, ?_, ?_, ?_, ?_, ?_⟩
      · rw [r1 j hj, k1]
      · rw [r2 j hj, k2]
      · rw [r3 j hj, k3]
      · rw [r4 j hj, k4]
      · rw [r5 j hj, k5]
      · rw [r6 j hj, k6]
      · rw [r7 j hj, k7]
      · rw [r8 j hj, k8]
      · rw [r9 j hj, k9]
      · rw [r10 j hj, k10]
      · rw [r11 j hj, k11]
      · rw [r12 j hj, k12]
    · have hMi := hM16 i (by omega)
      have hq := q3 i (by omega)
      rw [if_neg (fun y => by omega), if_pos (by omega)] at hq
      have h14 := hR.2.1.1 i (by omega)
      refine br_f (nI_ge (by omega) (by omega)) ?_
      refine wl_nib (by omega) ?_
      refine wl_nib (by omega) ?_
      rw [hz i (by omega), hq]
      by_cases a : iv i < M i
      · refine br_t (nI_lt a (by omega)) ?_
        refine nm_e ?_
        have := ih (i + 1) yI (by omega) (by omega) (fun p hp => ?_)
        · rw [rl_or_f (fun y => by have := of_decide_eq_true y; omega)] at this
          rw [nI_1]
          exact this
        · rw [q3 p hp]
          by_cases w : p = i
          · have n1 : ¬ (i < i ∧ M i ≤ iv i) := by omega
            have n2 : ¬ (i < i + 1 ∧ M i ≤ iv i) := by omega
            rw [w, if_neg n1, if_neg n2]
          · by_cases y : p < i ∧ M p ≤ iv p
            · have n2 : p < i + 1 ∧ M p ≤ iv p := ⟨by omega, y.2⟩
              rw [if_pos y, if_pos n2]
            · have n2 : ¬ (p < i + 1 ∧ M p ≤ iv p) := fun x => y ⟨by omega, x.2⟩
              rw [if_neg y, if_neg n2]
      · refine br_f (nI_nlt (by omega) (by omega)) ?_
        refine nm_e ?_
        refine wl_nib (by omega) ?_
        rw [hz i (by omega)]
        refine wl_set (by omega) hMi (fun w hw => ?_)
        refine nm_e ?_
        have := ih (i + 1) w (by omega) (by omega) (fun p hp => ?_)
        · rw [rl_or_t (decide_eq_true (by omega))] at this
          rw [nI_1]
          exact this
        · rw [hw p (by omega)]
          by_cases x : p = i
          · rw [if_pos x, x, if_pos ⟨by omega, by omega⟩]
          · rw [if_neg x, q3 p hp]
            by_cases y : p < i ∧ M p ≤ iv p
            · have n2 : p < i + 1 ∧ M p ≤ iv p := ⟨by omega, y.2⟩
              rw [if_pos y, if_pos n2]
            · have n2 : ¬ (p < i + 1 ∧ M p ≤ iv p) := fun x => y ⟨by omega, x.2⟩
              rw [if_neg y, if_neg n2]
theorem lq_838 {J : Int64 → Int64 → Int64 → Int64 → Int64 → Int64 → Int64 → Int64 → Int64 → Int64 → Int64 → Int64 → Int64 → Int64 → Int64 → Int64 → Int64 → Int32 → Int32 → Int32 → Int32 → Int32 → (Nat → Int32) → (Nat → Int32) → (Nat → Int32) → (Nat → Int32) → (Nat → Int32) → (Nat → Int32) → (Nat → Int32) → (Nat → Int32) → (Nat → Int32) → (Nat → Int32) → (Nat → Int32) → (Nat → Int32) → (Nat → Int32) → (Nat → Int32) → (Nat → Int32) → Prop} (hJ : rq_J n c m kk J) (hL : L ≤ 260) (hkk : kk ≤ 1000) (hR : rq_R n c m iv ct g st sd rc si ri H zI zS zW zN zR a1 a2 a3 b0 b2 b3 c0 c1 c3 d0 d1 d2 dn IV U CT NB ST SD RC SI RI) {M : Nat → Nat} (hMM : rl_IsL 4 (rq_top n iv (rl_dn U)) (rq_C H) M) {z : Int64} (hz : ∀ p, p < 4 → nk_v z p = M p) :
    ∀ (fu e : Nat) (yS : Int64), m < fu + e → e ≤ m → (∀ f, f < m → nk_v yS f = if f < e then rl_rb st sd rc si ri M f else st f) →
      wL_law_838 post L xs J x1 (nI n) (nI m) zI zW zN zR a1 a2 a3 b0 b2 b3 c0 c1 c3 d0 d1 d2 (nI kk) z 0 kc ks (nI n) (nI c) (nI m) vX IV U CT NB SV ST SD RC PL SI RI LN ND SE fu yS (nI e) := by
  have hR' := hR
  obtain ⟨hA, hI, hH, hzI, hzS, hzW, hzR, hdn⟩ := hR'
  have hA' := hA
  obtain ⟨hW, hIV, hCT, hNB, hST, hSD, hRC, hSI, hRI⟩ := hA'
  have hW' := hW
  obtain ⟨⟨⟨n2, n4⟩, ⟨c3h, c8⟩, ⟨m4, m16⟩⟩, hS, hM, hB⟩ := hW'
  have hM16 : ∀ p, p < 4 → M p < 16 := fun p hp => by rw [← hz p hp]; exact nk_lt z p
  intro fu
  induction fu with
  | zero => intro e yS q1 q2; omega
  | succ fu ih =>
    intro e yS q1 q2 q3
    rw [wL_law_838]
    by_cases a : m ≤ e
    · refine br_t (nI_le a (by omega)) ?_
      refine ⟨n + 1, lq_943 hJ hL hkk hR hMM hz (fun f hf => by rw [q3 f hf, if_pos (by omega)]) (n + 1) 0 zI (by omega) (by omega) (fun p hp => ?_)⟩
      rw [if_neg (fun y => by omega)]
      exact hzI p hp
    · have he : e < m := by omega
      obtain ⟨t1, t2, t3, t4, t5⟩ := hM.1 e
      have hq := q3 e he
      rw [if_neg (by omega)] at hq
      have nxk : rl_rb st sd rc si ri M e = st e → wL_law_838 post L xs J x1 (nI n) (nI m) zI zW zN zR a1 a2 a3 b0 b2 b3 c0 c1 c3 d0 d1 d2 (nI kk) z 0 kc ks (nI n) (nI c) (nI m) vX IV U CT NB SV ST SD RC PL SI RI LN ND SE fu yS (nI e + 1) := by
        intro y
        rw [nI_1]
        refine ih (e + 1) yS (by omega) (by omega) (fun f hf => ?_)
        rw [q3 f hf]
        by_cases w : f = e
        · rw [w, if_neg (by omega), if_pos (by omega), y]
        · by_cases l : f < e
          · rw [if_pos l, if_pos (by omega)]
          · rw [if_neg l, if_neg (by omega)]
      have nxs : ∀ w, (∀ j, j < 16 → nk_v w j = if j = e then rl_rb st sd rc si ri M e else nk_v yS j) → wL_law_838 post L xs J x1 (nI n) (nI m) zI zW zN zR a1 a2 a3 b0 b2 b3 c0 c1 c3 d0 d1 d2 (nI kk) z 0 kc ks (nI n) (nI c) (nI m) vX IV U CT NB SV ST SD RC PL SI RI LN ND SE fu w (nI e + 1) := by
        intro w hw
        rw [nI_1]
        refine ih (e + 1) w (by omega) (by omega) (fun f hf => ?_)
        rw [hw f (by omega)]
        by_cases x : f = e
        · rw [if_pos x, x, if_pos (by omega)]
        · rw [if_neg x, q3 f hf]
          by_cases l : f < e
          · rw [if_pos l, if_pos (by omega)]
          · rw [if_neg l, if_neg (by omega)]
      refine br_f (nI_ge (by omega) (by omega)) ?_
      refine wl_nib (by omega) ?_
      refine wl_nib (by omega) ?_
      rw [hq]
      by_cases s0 : st e = 0
      · refine br_t (by rw [s0]; rfl) ?_
        unfold wL_law_899
        refine br_f (fun y => absurd ((rl_eq2 (by omega)).mp y) (by omega)) ?_
        exact nm_e (nxk (by unfold rl_rb; rw [if_pos s0, s0]))
      · obtain ⟨w1, w2⟩ := hzW e he s0
        rw [w1]
        have e1 : nI (sd e + 4 * rc e) >>> ((2 : Int32) &&& 31) = nI (rc e) := by
          rw [pk_shrN (by omega) _ 2 (by decide)]
          congr 1
          omega
        have e2 : nI (sd e + 4 * rc e) &&& 3 = nI (sd e) := by
          rw [pk_andN (by omega) 2 (by decide)]
          congr 1
          omega
        have mS := hM16 (sd e) (by omega)
        have mR := hM16 (rc e) (by omega)
        refine br_f (fun y => s0 ((rl_eq0 (by omega)).mp y)) ?_
        refine wl_nib (by omega) ?_
        rw [e2]
        refine wl_nib (by omega) ?_
        rw [w2, hz _ (by omega)]
        by_cases b : si e < M (sd e)
        · refine br_t (nI_lt b (by omega)) ?_
          unfold wL_law_899
          by_cases s2 : st e = 2
          · refine br_t (by rw [s2]; rfl) ?_
            refine wl_nib (by omega) ?_
            rw [e1]
            refine wl_nib (by omega) ?_
            rw [hzR e he s2, hz _ (by omega)]
            by_cases d : ri e < M (rc e)
            · refine br_t (nI_lt d (by omega)) ?_
              exact nm_e (nxk (by unfold rl_rb; rw [if_neg s0, if_pos b, if_neg (fun y => y.2 d)]))
            · refine br_f (nI_nlt (by omega) (by omega)) ?_
              have hv : rl_rb st sd rc si ri M e = 1 := by unfold rl_rb; rw [if_neg s0, if_pos b, if_pos ⟨s2, d⟩]
              refine wl_set (v := 1) (by omega) (by omega) (fun w hw => ?_)
              exact nm_e (nxs w (by rw [hv]; exact hw))
          · refine br_f (fun y => s2 ((rl_eq2 (by omega)).mp y)) ?_
            exact nm_e (nxk (by unfold rl_rb; rw [if_neg s0, if_pos b, if_neg (fun y => s2 y.1)]))
        · refine br_f (nI_nlt (by omega) (by omega)) ?_
          have hv : rl_rb st sd rc si ri M e = 0 := by unfold rl_rb; rw [if_neg s0, if_neg b]
          refine wl_set (v := 0) (by omega) (by omega) (fun w hw => ?_)
          exact nm_e (nxs w (by rw [hv]; exact hw))
end
