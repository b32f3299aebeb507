def rq_J (n c m kk : Nat) (J : Int64 → Int64 → Int64 → Int64 → Int64 → Int64 → Int64 → Int64 → Int64 → Int64 → Int64 → Int64 → Int64 → Int64 → Int64 → Int64 → Int64 → Int32 → Int32 → Int32 → Int32 → Int32 → (Nat → Int32) → (Nat → Int32) → (Nat → Int32) → (Nat → Int32) → (Nat → Int32) → (Nat → Int32) → (Nat → Int32) → (Nat → Int32) → (Nat → Int32) → (Nat → Int32) → (Nat → Int32) → (Nat → Int32) → (Nat → Int32) → (Nat → Int32) → (Nat → Int32) → Prop) : Prop :=
  ∀ (iv ct : Nat → Nat) (g : Nat → Nat → Nat) (st sd rc si ri : Nat → Nat) (H : Nat → Nat → Nat → Nat) (zI zS zW zN zR a1 a2 a3 b0 b2 b3 c0 c1 c3 d0 d1 d2 : Int64) (dn : Int32)
    (vX IV U CT NB SV ST SD RC PL SI RI LN ND SE : Nat → Int32), rq_R n c m iv ct g st sd rc si ri H zI zS zW zN zR a1 a2 a3 b0 b2 b3 c0 c1 c3 d0 d1 d2 dn IV U CT NB ST SD RC SI RI → J zI zS zW zN zR a1 a2 a3 b0 b2 b3 c0 c1 c3 d0 d1 d2 dn (nI kk + 2) (nI n) (nI c) (nI m) vX IV U CT NB SV ST SD RC PL SI RI LN ND SE
section
variable {n c m : Nat} {iv ct st sd rc si ri : Nat → Nat} {g : Nat → Nat → Nat}
variable {vX IV U CT NB SV ST SD RC PL SI RI LN ND SE : Nat → Int32}
variable {post : Int32 → Prop} {L kc ks kk : Nat} {xs : Nat → Int32} {x1 dn : Int32} {zI zS zW zN zR a1 a2 a3 b0 b2 b3 c0 c1 c3 d0 d1 d2 : Int64} {H : Nat → Nat → Nat → Nat}
theorem lq_go {J : Int64 → Int64 → Int64 → Int64 → Int64 → Int64 → Int64 → Int64 → Int64 → Int64 → Int64 → Int64 → Int64 → Int64 → Int64 → Int64 → Int64 → Int32 → Int32 → Int32 → Int32 → Int32 → (Nat → Int32) → (Nat → Int32) → (Nat → Int32) → (Nat → Int32) → (Nat → Int32) → (Nat → Int32) → (Nat → Int32) → (Nat → Int32) → (Nat → Int32) → (Nat → Int32) → (Nat → Int32) → (Nat → Int32) → (Nat → Int32) → (Nat → Int32) → (Nat → Int32) → Prop} (hJ : rq_J n c m kk J) (hL : L ≤ 260) (hkk : kk ≤ 1000) (hR : rq_R n c m iv ct g st sd rc si ri H zI zS zW zN zR a1 a2 a3 b0 b2 b3 c0 c1 c3 d0 d1 d2 dn IV U CT NB ST SD RC SI RI) : ∃ fu, wL_law_1332 post L xs J x1 (nI n) (nI m) zI zS zW zN zR a1 a2 a3 b0 b2 b3 c0 c1 c3 d0 d1 d2 dn (nI kk) kc ks (nI n) (nI c) (nI m) vX IV U CT NB SV ST SD RC PL SI RI LN ND SE fu 0 :=
  lq_chk hR hL hkk (fun LN ND SE => hJ iv ct g st sd rc si ri H zI zS zW zN zR a1 a2 a3 b0 b2 b3 c0 c1 c3 d0 d1 d2 dn vX IV U CT NB SV ST SD RC PL SI RI LN ND SE hR)
theorem rq_A_check (hA : rl_A n c m iv ct g st sd rc si ri IV CT NB ST SD RC SI RI) {p : Nat} (hp : p < n) (h99 : iv p < 99) (hc : ct p < c) :
    rl_A n c m (rl_u iv p (iv p + 1)) (rl_u ct p (ct p + 1)) (rl_gC g p (ct p) (iv p + 1)) st sd rc si ri (upd IV p (nI (iv p + 1))) (upd CT p (nI (ct p + 1))) (upd NB (p * 8 + ct p) (nI (iv p + 1))) ST SD RC SI RI := by
  have hA' := hA
  obtain ⟨hW, hIV, hCT, hNB, hST, hSD, hRC, hSI, hRI⟩ := hA'
  have hW' := hW
  obtain ⟨⟨⟨n2, n4⟩, ⟨c3h, c8⟩, ⟨m4, m16⟩⟩, hS, hM, hB⟩ := hW'
  have hct : ∀ q, q < n → ct q ≤ 8 := fun q hq => Nat.le_trans (hS q hq).2.1 c8
  refine ⟨rl_W_check hW hp h99 hc, rl_uI hIV p _, rl_uI hCT p _, fun q hq k hk => ?_, hST, hSD, hRC, hSI, hRI⟩
  have hq8 := hct q hq
  by_cases e : q = p
  · rw [e] at hk hq8 ⊢
    rw [rl_us] at hk
    by_cases ek : k = ct p
    · rw [ek, pk_us, rl_gC_s]
    · rw [pk_un (by omega), rl_gC_n (fun z => ek z.2)]
      exact hNB p hp k (by omega)
  · rw [rl_un e] at hk
    rw [pk_un (by omega), rl_gC_n (fun z => e z.1)]
    exact hNB q hq k hk
theorem lq_230 {J : Int64 → Int64 → Int64 → Int64 → Int64 → Int64 → Int64 → Int64 → Int64 → Int64 → Int64 → Int64 → Int64 → Int64 → Int64 → Int64 → Int64 → Int32 → Int32 → Int32 → Int32 → Int32 → (Nat → Int32) → (Nat → Int32) → (Nat → Int32) → (Nat → Int32) → (Nat → Int32) → (Nat → Int32) → (Nat → Int32) → (Nat → Int32) → (Nat → Int32) → (Nat → Int32) → (Nat → Int32) → (Nat → Int32) → (Nat → Int32) → (Nat → Int32) → (Nat → Int32) → Prop} (hJ : rq_J n c m kk J) (hL : L ≤ 260) (hkk : kk ≤ 1000) (hR : rq_R n c m iv ct g st sd rc si ri H zI zS zW zN zR a1 a2 a3 b0 b2 b3 c0 c1 c3 d0 d1 d2 dn IV U CT NB ST SD RC SI RI) {p : Nat} (hp : p < n) : wL_law_230 post L xs J x1 (nI n) (nI m) zI zS zW zN zR a1 a2 a3 b0 b2 b3 c0 c1 c3 d0 d1 d2 dn (nI kk) (nI p) kc ks (nI n) (nI c) (nI m) vX IV U CT NB SV ST SD RC PL SI RI LN ND SE := by
  have hR' := hR
  obtain ⟨hA, hI, hH, hzI, hzS, hzW, hzR, hdn⟩ := hR'
  have hA' := hA
  obtain ⟨hW, hIV, hCT, hNB, hST, hSD, hRC, hSI, hRI⟩ := hA'
  have hW' := hW
  obtain ⟨⟨⟨n2, n4⟩, ⟨c3h, c8⟩, ⟨m4, m16⟩⟩, hS, hM, hB⟩ := hW'
  have hI14 := hI.1 p hp
  have hzp := hzI p (by omega)
  rw [if_pos hp] at hzp
  have hgo := lq_go (kc := kc) (ks := ks) (post := post) (xs := xs) (x1 := x1) (vX := vX) (SV := SV) (PL := PL) (LN := LN) (ND := ND) (SE := SE) hJ hL hkk hR
  unfold wL_law_230
  refine wl_nib (by omega) ?_
  rw [hzp]
  by_cases a : 14 ≤ iv p
  · exact br_t (nI_le (a := 14) a (by omega)) hgo
  · refine br_f (nI_ge (b := 14) (by omega) (by omega)) ?_
    refine rx_checkpoint hA hp (by omega) (fun _ => br_t (by decide) hgo) (fun _ => br_t (by decide) hgo) (fun u d => ?_)
    refine br_f (nI_pos (by omega)) ?_
    refine wl_nib (by omega) ?_
    rw [hzp]
    refine br_t (nI_1 _).symm ?_
    refine wl_set (by omega) (by omega) (fun z hz => ?_)
    refine lq_go hJ hL hkk (iv := rl_u iv p (iv p + 1)) (ct := rl_u ct p (ct p + 1)) (g := rl_gC g p (ct p) (iv p + 1)) (st := st) (sd := sd) (rc := rc) (si := si) (ri := ri) (H := H) ?_
    refine ⟨rq_A_check hA hp (by omega) d, rq_I_check n4 hI hp (fun w => u (of_decide_eq_true w)) (by omega), hH, fun q hq => ?_, hzS, hzW, hzR, hdn⟩
    rw [hz q (by omega)]
    by_cases e : q = p
    · rw [if_pos e, e, if_pos hp, rl_us]
    · rw [if_neg e, hzI q hq]
      by_cases w : q < n
      · rw [if_pos w, if_pos w, rl_un e]
      · rw [if_neg w, if_neg w]
theorem lq_306 {J : Int64 → Int64 → Int64 → Int64 → Int64 → Int64 → Int64 → Int64 → Int64 → Int64 → Int64 → Int64 → Int64 → Int64 → Int64 → Int64 → Int64 → Int32 → Int32 → Int32 → Int32 → Int32 → (Nat → Int32) → (Nat → Int32) → (Nat → Int32) → (Nat → Int32) → (Nat → Int32) → (Nat → Int32) → (Nat → Int32) → (Nat → Int32) → (Nat → Int32) → (Nat → Int32) → (Nat → Int32) → (Nat → Int32) → (Nat → Int32) → (Nat → Int32) → (Nat → Int32) → Prop} (hJ : rq_J n c m kk J) (hL : L ≤ 260) (hkk : kk ≤ 1000) (hR : rq_R n c m iv ct g st sd rc si ri H zI zS zW zN zR a1 a2 a3 b0 b2 b3 c0 c1 c3 d0 d1 d2 dn IV U CT NB ST SD RC SI RI) {p q : Nat} (hp : p < n) (hq : q < n) (hpq : p ≠ q) : wL_law_306 post L xs J x1 (nI n) (nI m) zI zS zW zN zR a1 a2 a3 b0 b2 b3 c0 c1 c3 d0 d1 d2 dn (nI kk) (nI p) (nI q) kc ks (nI n) (nI c) (nI m) vX IV U CT NB SV ST SD RC PL SI RI LN ND SE := by
  have hR' := hR
  obtain ⟨hA, hI, hH, hzI, hzS, hzW, hzR, hdn⟩ := hR'
  have hA' := hA
  obtain ⟨hW, hIV, hCT, hNB, hST, hSD, hRC, hSI, hRI⟩ := hA'
  have hW' := hW
  obtain ⟨⟨⟨n2, n4⟩, ⟨c3h, c8⟩, ⟨m4, m16⟩⟩, hS, hM, hB⟩ := hW'
  have hI14 := hI.1 p hp
  have hzp := hzI p (by omega)
  rw [if_pos hp] at hzp
  have hgo := lq_go (kc := kc) (ks := ks) (post := post) (xs := xs) (x1 := x1) (vX := vX) (SV := SV) (PL := PL) (LN := LN) (ND := ND) (SE := SE) hJ hL hkk hR
  unfold wL_law_306
  refine rx_send hA hp hq hpq (fun _ => br_t (by decide) hgo) (br_t (by decide) hgo) (fun s hs h0 => ?_)
  refine br_f (nI_pos (by omega)) ?_
  refine br_f (nI_ge hs (by omega)) ?_
  refine wl_nib (by omega) ?_
  rw [hzS s hs, h0]
  refine br_t rfl ?_
  refine wl_set (v := 1) (by omega) (by omega) (fun z1 h1 => ?_)
  have e4 : nI q <<< ((2 : Int32) &&& 31) = nI (q * 4) := pk_shlN _ 2 (by decide) (by omega)
  have e5 : p ||| q * 4 = q * 4 + p := by
    have := Nat.two_pow_add_eq_or_of_lt (i := 2) (show p < 2 ^ 2 by omega) q
    rw [Nat.or_comm, Nat.mul_comm q 4]
    exact this.symm
  rw [e4, nk_or32, e5]
  refine wl_set (by omega) (by omega) (fun z2 h2 => ?_)
  refine wl_nib (by omega) ?_
  rw [hzp]
  refine wl_set (by omega) (by omega) (fun z3 h3 => ?_)
  refine lq_go hJ hL hkk (iv := iv) (ct := ct) (g := g) (st := rl_u st s 1) (sd := rl_u sd s p) (rc := rl_u rc s q) (si := rl_u si s (iv p)) (ri := ri) (H := H) ?_
  refine ⟨⟨rl_W_send hW hp hq, hIV, hCT, hNB, rl_uI hST s 1, rl_uI hSD s p, rl_uI hRC s q, rl_uI hSI s _, hRI⟩, rq_I_send hI h0 hpq, hH, hzI, fun e he => ?_, fun e he z => ?_, fun e he z => ?_, hdn⟩
  · rw [h1 e (by omega)]
    by_cases w : e = s
    · rw [if_pos w, w, rl_us]
    · rw [if_neg w, rl_un w]; exact hzS e he
  · rw [h2 e (by omega), h3 e (by omega)]
    by_cases w : e = s
    · rw [if_pos w, if_pos w, w, rl_us, rl_us, rl_us]
      exact ⟨by omega, rfl⟩
    · rw [rl_un w] at z
      rw [if_neg w, if_neg w, rl_un w, rl_un w, rl_un w]; exact hzW e he z
  · by_cases w : e = s
    · rw [w, rl_us] at z; omega
    · rw [rl_un w] at z; exact hzR e he z
end
