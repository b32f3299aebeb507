section
variable {n c m : Nat} {iv ct st sd rc si ri : Nat → Nat} {g : Nat → Nat → Nat}
variable {vX IV U CT NB SV ST SD RC PL SI RI LN ND SE : Nat → Int32}
theorem rq_A_reclaim (hA : rl_A n c m iv ct g st sd rc si ri IV CT NB ST SD RC SI RI) {Ls : Int32 → Nat → Nat} (hL : ∀ T, rl_IsL n (rl_tp ct T) (rl_C m iv ct g st sd rc si ri) (Ls T)) {NB' : Nat → Int32} {f : Nat → Nat → Nat}
    (r1 : ∀ p, p < n → ∀ k, k < ct p → (¬ ND (p * 8 + k) = 0 ↔ rl_Nd (rl_or (rl_dn U) n) Ls (2 ^ n) p k))
    (r3 : ∀ p, p < n → rl_Sub (rl_nd ND p) (ct p) (rl_cn (rl_nd ND p) (ct p)) (f p))
    (r4 : ∀ p, p < n → ∀ j, j < rl_cn (rl_nd ND p) (ct p) → NB' (p * 8 + j) = NB (p * 8 + f p j)) :
    rl_A n c m iv (fun p => if p < n then rl_cn (rl_nd ND p) (ct p) else ct p) (fun p j => g p (f p j)) (fun s => if s < m ∧ ¬ SE s = 0 then 0 else st s) sd rc si ri IV
      (rl_mix n (fun q => nI (rl_cn (rl_nd ND q) (ct q))) CT) NB' (rl_mix m (rl_cl SE ST) ST) SD RC SI RI := by
  have hA' := hA
  obtain ⟨hW, hIV, hCT, hNB, hST, hSD, hRC, hSI, hRI⟩ := hA'
  have hW' := hW
  obtain ⟨⟨⟨n2, n4⟩, ⟨c3h, c8⟩, ⟨m4, m16⟩⟩, hS, hM, hB⟩ := hW'
  have h16 := rl_16 n4
  have hnd : ∀ p k, rl_nd ND p k = true ↔ ¬ ND (p * 8 + k) = 0 := fun p k => decide_eq_true_iff
  have hall : ∀ p, p < n → Ls (nI (2 ^ n - 1)) p < ct p := by
    intro p hp
    have h1 := (hL (nI (2 ^ n - 1))).1 p hp
    have ht : rl_tp ct (nI (2 ^ n - 1)) p = ct p - 1 := if_neg (rl_allp n2 n4 hp)
    have h2 := (hS p hp).1
    omega
  have hpos : 0 < 2 ^ n := Nat.pow_pos (by omega)
  have hW2 := rl_W_reclaim hW (hL (nI (2 ^ n - 1))) hall (ct' := fun p => if p < n then rl_cn (rl_nd ND p) (ct p) else ct p) (g' := fun p j => g p (f p j)) (f := f)
    (fun p hp => by show (if p < n then rl_cn (rl_nd ND p) (ct p) else ct p) ≤ ct p; rw [if_pos hp]; exact rl_cn_le _ _)
    (fun p hp j hj => by
      have hj' : j < if p < n then rl_cn (rl_nd ND p) (ct p) else ct p := hj
      rw [if_pos hp] at hj'
      exact ⟨((r3 p hp).1 j hj').1, rfl⟩)
    (fun p hp i j hij hj => by
      have hj' : j < if p < n then rl_cn (rl_nd ND p) (ct p) else ct p := hj
      rw [if_pos hp] at hj'
      exact (r3 p hp).2.1 i j hij hj')
    (fun p hp => by
      show ∃ j, j < (if p < n then rl_cn (rl_nd ND p) (ct p) else ct p) ∧ f p j = Ls (nI (2 ^ n - 1)) p
      rw [if_pos hp]
      refine (r3 p hp).2.2.1 _ (hall p hp) ((hnd p _).mpr ((r1 p hp _ (hall p hp)).mpr ?_))
      exact ⟨2 ^ n - 1, by omega, rl_all (rl_dn U) n2 n4, rfl⟩)
  have hW3 := rl_W_drop hW2 (st' := fun s => if s < m ∧ ¬ SE s = 0 then 0 else st s) (fun s => by
    show (if s < m ∧ ¬ SE s = 0 then 0 else st s) = st s ∨ (if s < m ∧ ¬ SE s = 0 then 0 else st s) = 0
    split
    · exact Or.inr rfl
    · exact Or.inl rfl)
  refine ⟨hW3, hIV, fun p => ?_, fun p hp k hk => ?_, fun s => ?_, hSD, hRC, hSI, hRI⟩
  · show _ = nI (if p < n then rl_cn (rl_nd ND p) (ct p) else ct p)
    by_cases h : p < n
    · rw [rl_mix_lt h, if_pos h]
    · rw [rl_mix_ge (by omega), if_neg h]; exact hCT p
  · have hk' : k < if p < n then rl_cn (rl_nd ND p) (ct p) else ct p := hk
    rw [if_pos hp] at hk'
    rw [r4 p hp k hk']
    exact hNB p hp _ ((r3 p hp).1 k hk').1
  · show _ = nI (if s < m ∧ ¬ SE s = 0 then 0 else st s)
    by_cases h : s < m
    · rw [rl_mix_lt h]
      unfold rl_cl
      by_cases a : SE s = 0
      · rw [if_pos a, if_neg (fun z => z.2 a)]; exact hST s
      · rw [if_neg a, if_pos ⟨h, a⟩]; rfl
    · rw [rl_mix_ge (by omega), if_neg (fun z => h z.1)]; exact hST s
end
section
variable {n c m : Nat} {iv ct st sd rc si ri : Nat → Nat} {g : Nat → Nat → Nat}
variable {vX IV U CT NB SV ST SD RC PL SI RI LN ND SE : Nat → Int32}
variable {post : Int32 → Prop} {L kc ks kk : Nat} {xs : Nat → Int32} {x1 dn : Int32} {zI zS zW zN zR a1 a2 a3 b0 b2 b3 c0 c1 c3 d0 d1 d2 : Int64} {H : Nat → Nat → Nat → Nat}
theorem lq_1201 {J : Int64 → Int64 → Int64 → Int64 → Int64 → Int64 → Int64 → Int64 → Int64 → Int64 → Int64 → Int64 → Int64 → Int64 → Int64 → Int64 → Int64 → Int32 → Int32 → Int32 → Int32 → Int32 → (Nat → Int32) → (Nat → Int32) → (Nat → Int32) → (Nat → Int32) → (Nat → Int32) → (Nat → Int32) → (Nat → Int32) → (Nat → Int32) → (Nat → Int32) → (Nat → Int32) → (Nat → Int32) → (Nat → Int32) → (Nat → Int32) → (Nat → Int32) → (Nat → Int32) → Prop} (hJ : rq_J n c m kk J) (hL : L ≤ 260) (hkk : kk ≤ 1000) (m16 : m ≤ 16) {st' : Nat → Nat} {M : Nat → Nat} {z : Int64} (n4 : n ≤ 4) (hz : ∀ p, p < 4 → nk_v z p = M p) (hrc : ∀ e, e < m → sd e < n ∧ rc e < n ∧ st e ≤ 2)
    (hzW : ∀ e, e < m → ¬ st e = 0 → nk_v zW e = sd e + 4 * rc e ∧ nk_v zN e = si e) (hzR : ∀ e, e < m → st e = 2 → nk_v zR e = ri e) (hST : ∀ s, ST s = nI (st' s))
    (hst : ∀ e, e < m → st' e = st e ∨ (st' e = 0 ∧ st e = 2 ∧ ri e < M (rc e)))
    (hfin : ∀ yS, (∀ e, e < m → nk_v yS e = st' e) → ∃ fu, wL_law_1332 post L xs J x1 (nI n) (nI m) zI yS zW zN zR a1 a2 a3 b0 b2 b3 c0 c1 c3 d0 d1 d2 dn (nI kk) kc ks (nI n) (nI c) (nI m) vX IV U CT NB SV ST SD RC PL SI RI LN ND SE fu 0) :
    ∀ (fu e : Nat) (yS : Int64), m < fu + e → e ≤ m → (∀ f, f < m → nk_v yS f = if f < e then st' f else st f) →
      wL_law_1201 post L xs J x1 (nI n) (nI m) zI zW zN zR a1 a2 a3 b0 b2 b3 c0 c1 c3 d0 d1 d2 dn (nI kk) z kc ks (nI n) (nI c) (nI m) vX IV U CT NB SV ST SD RC PL SI RI LN ND SE fu yS (nI e) := by
  have hM16 : ∀ p, p < 4 → M p < 16 := fun p hp => by rw [← hz p hp]; exact nk_lt z p
  intro fu
  induction fu with
  | zero => intro e yS q1 q2; omega
  | succ fu ih =>
    intro e yS q1 q2 q3
    rw [wL_law_1201]
    by_cases a : m ≤ e
    · refine br_t (nI_le a (by omega)) ?_
      exact hfin yS (fun f hf => by rw [q3 f hf, if_pos (by omega)])
    · have he : e < m := by omega
      obtain ⟨t2, t3, t1⟩ := hrc e he
      have hq := q3 e he
      rw [if_neg (by omega)] at hq
      have nxk : st' e = st e → wL_law_1201 post L xs J x1 (nI n) (nI m) zI zW zN zR a1 a2 a3 b0 b2 b3 c0 c1 c3 d0 d1 d2 dn (nI kk) z kc ks (nI n) (nI c) (nI m) vX IV U CT NB SV ST SD RC PL SI RI LN ND SE fu yS (nI e + 1) := by
        intro y
        rw [nI_1]
        refine ih (e + 1) yS (by omega) (by omega) (fun f hf => ?_)
        rw [q3 f hf]
        by_cases w : f = e
        · rw [w, if_neg (by omega), if_pos (by omega), y]
        · by_cases l : f < e
          · rw [if_pos l, if_pos (by omega)]
          · rw [if_neg l, if_neg (by omega)]
      refine br_f (nI_ge (by omega) (by omega)) ?_
      refine wl_nib (by omega) ?_
      rw [hq]
      by_cases s0 : st e = 0
      · refine br_t (by rw [s0]; rfl) ?_
        refine nm_e (nxk ?_)
        rcases hst e he with y | y
        · exact y
        · omega
      · refine br_f (fun y => s0 ((rl_eq0 (by omega)).mp y)) ?_
        refine rx_msg0 (st := st') he m16 (hST e) ?_
        rcases hst e he with y | ⟨y1, y2, y3⟩
        · refine br_f (fun w => s0 (by rw [← y]; exact (rl_eq0 (by omega)).mp w)) ?_
          exact nm_e (nxk y)
        · refine br_t (by rw [y1]; rfl) ?_
          refine wl_nib (by omega) ?_
          rw [hq]
          refine br_t (by rw [y2]; rfl) ?_
          refine wl_nib (by omega) ?_
          refine wl_nib (by omega) ?_
          rw [hzR e he y2, (hzW e he s0).1]
          have e1 : nI (sd e + 4 * rc e) >>> ((2 : Int32) &&& 31) = nI (rc e) := by
            rw [pk_shrN (by omega) _ 2 (by decide)]
            congr 1
            omega
          rw [e1]
          refine wl_nib (by omega) ?_
          rw [hz _ (by omega)]
          have mR := hM16 (rc e) (by omega)
          refine br_t (nI_lt y3 (by omega)) ?_
          refine wl_set (v := 0) (by omega) (by omega) (fun w hw => ?_)
          refine nm_e ?_
          rw [nI_1]
          refine ih (e + 1) w (by omega) (by omega) (fun f hf => ?_)
          rw [hw f (by omega)]
          by_cases x : f = e
          · rw [if_pos x, x, if_pos (by omega), y1]
          · rw [if_neg x, q3 f hf]
            by_cases l : f < e
            · rw [if_pos l, if_pos (by omega)]
            · rw [if_neg l, if_neg (by omega)]
theorem lq_reclaim {J : Int64 → Int64 → Int64 → Int64 → Int64 → Int64 → Int64 → Int64 → Int64 → Int64 → Int64 → Int64 → Int64 → Int64 → Int64 → Int64 → Int64 → Int32 → Int32 → Int32 → Int32 → Int32 → (Nat → Int32) → (Nat → Int32) → (Nat → Int32) → (Nat → Int32) → (Nat → Int32) → (Nat → Int32) → (Nat → Int32) → (Nat → Int32) → (Nat → Int32) → (Nat → Int32) → (Nat → Int32) → (Nat → Int32) → (Nat → Int32) → (Nat → Int32) → (Nat → Int32) → Prop} (hJ : rq_J n c m kk J) (hL : L ≤ 260) (hkk : kk ≤ 1000) (hR : rq_R n c m iv ct g st sd rc si ri H zI zS zW zN zR a1 a2 a3 b0 b2 b3 c0 c1 c3 d0 d1 d2 dn IV U CT NB ST SD RC SI RI) {M : Nat → Nat} (hMM : rl_IsL 4 (rq_top n iv (fun _ => true)) (rq_C H) M) {z : Int64} (hz : ∀ p, p < 4 → nk_v z p = M p) {post2 : Int32 → St2 → Prop}
    (hp2 : ∀ (r : Int32) (vX IV U CT NB SV ST SD RC PL SI RI LN ND SE : Nat → Int32), (∃ fu, wL_law_1201 post L xs J x1 (nI n) (nI m) zI zW zN zR a1 a2 a3 b0 b2 b3 c0 c1 c3 d0 d1 d2 dn (nI kk) z kc ks (nI n) (nI c) (nI m) vX IV U CT NB SV ST SD RC PL SI RI LN ND SE fu zS 0) → post2 r (nI n, nI c, nI m, vX, IV, U, CT, NB, SV, ST, SD, RC, PL, SI, RI, LN, ND, SE)) : wpX_reclaim post2 (nI n, nI c, nI m, vX, IV, U, CT, NB, SV, ST, SD, RC, PL, SI, RI, LN, ND, SE) := by
  have hR' := hR
  obtain ⟨hA, hI, hH, hzI, hzS, hzW, hzR, hdn⟩ := hR'
  have hA' := hA
  obtain ⟨hW, hIV, hCT, hNB, hST, hSD, hRC, hSI, hRI⟩ := hA'
  have hW' := hW
  obtain ⟨⟨⟨n2, n4⟩, ⟨c3h, c8⟩, ⟨m4, m16⟩⟩, hS, hM, hB⟩ := hW'
  have h16 := rl_16 n4
  have hpos : 0 < 2 ^ n := Nat.pow_pos (by omega)
  obtain ⟨Ls, hLs⟩ := Classical.axiomOfChoice (rl_exL hW)
  refine rx_reclaim hA hLs (fun LN1 ND1 SE1 NB1 SV1 f r1 r2 r3 r4 => ?_)
  refine hp2 _ _ _ _ _ _ _ _ _ _ _ _ _ _ _ _ ?_
  have hnd : ∀ p k, rl_nd ND1 p k = true ↔ ¬ ND1 (p * 8 + k) = 0 := fun p k => decide_eq_true_iff
  have hA2 := rq_A_reclaim (SE := SE1) hA hLs r1 r3 (fun p hp j hj => (r4 p hp j hj).1)
  have hst : ∀ e, (if e < m ∧ ¬ SE1 e = 0 then 0 else st e) = st e ∨ ((if e < m ∧ ¬ SE1 e = 0 then 0 else st e) = 0 ∧ st e = 2 ∧ ∀ M, rl_IsL 4 (rq_top n iv (fun _ => true)) (rq_C H) M → ri e < M (rc e)) := by
    intro e
    by_cases a : e < m ∧ ¬ SE1 e = 0
    · have hs := (r2 e a.1).mp a.2
      refine Or.inr ⟨if_pos a, hs.1, fun M' hM' => ?_⟩
      have h1 := hs.2 (2 ^ n - 1) (by omega) (rl_all (rl_dn U) n2 n4)
      have h2 := rq_eq hW hI (T := fun _ => true) (fun _ _ _ => rfl) (TX := nI (2 ^ n - 1)) (fun q hq => ⟨fun _ => rl_allp n2 n4 hq, fun _ => rfl⟩) hM' (hLs _) (rc e) (hM.1 e).2.2.1
      rw [h2]
      exact h1
    · exact Or.inl (if_neg a)
  have hI2 := rq_I_reclaim n4 hM hI (ct' := fun p => if p < n then rl_cn (rl_nd ND1 p) (ct p) else ct p) (g' := fun p j => g p (f p j)) (st' := fun s => if s < m ∧ ¬ SE1 s = 0 then 0 else st s)
    (fun T hT M' hM' p hp k hk ek => by
      obtain ⟨j, hj, ej⟩ := rl_orN T n2 n4
      have hTX : ∀ q, q < n → (T q = true ↔ ¬ (rl_or T n &&& ((1 : Int32) <<< (nI q &&& 31))) = 0) := by
        intro q hq
        rw [bq_shl _ (by omega), bq_or _ (by omega) n (by omega)]
        cases T q <;> simp [hq]
      have h2 := rq_eq hW hI hT hTX hM' (hLs _) p hp
      have hLe : Ls (rl_or T n) p ≤ ct p := Nat.le_trans ((hLs _).1 p hp) (rl_tp_le ct _ p)
      have hk2 : k = Ls (rl_or T n) p := rl_G_inj hS hp (by omega) hLe (by rw [rl_G_in hk, ek, h2])
      have hnk : rl_nd ND1 p k = true := (hnd p k).mpr ((r1 p hp k hk).mpr ⟨j, hj, by
        rw [← ej]
        refine b_ext (fun i hi => ?_)
        rw [b_and, bq_or _ hi n (by omega), bq_or _ hi n (by omega)]
        by_cases a : i < n
        · have := hT i a
          cases hd : rl_dn U i
          · simp
          · simp [a, this hd]
        · simp [a], by rw [← ej]; exact hk2.symm⟩)
      obtain ⟨jj, hjj, ejj⟩ := (r3 p hp).2.2.1 k hk hnk
      refine ⟨jj, ?_, ?_⟩
      · show jj < if p < n then rl_cn (rl_nd ND1 p) (ct p) else ct p
        rw [if_pos hp]; exact hjj
      · show g p (f p jj) = M' p
        rw [ejj]; exact ek) hst
  refine ⟨m + 1, lq_1201 hJ hL hkk m16 (st := st) (st' := fun s => if s < m ∧ ¬ SE1 s = 0 then 0 else st s) n4 hz (fun e _ => ⟨(hM.1 e).2.1, (hM.1 e).2.2.1, (hM.1 e).1⟩) hzW hzR hA2.2.2.2.2.1
    (fun e _ => ?_) (fun yS hyS => ?_) (m + 1) 0 zS (by omega) (by omega) (fun f hf => by rw [if_neg (by omega)]; exact hzS f hf)⟩
  · rcases hst e with y | ⟨y1, y2, y3⟩
    · exact Or.inl y
    · exact Or.inr ⟨y1, y2, y3 M hMM⟩
  · refine lq_go hJ hL hkk (iv := iv) (H := H) ⟨hA2, hI2, hH, hzI, hyS, fun e he y => ?_, fun e he y => ?_, hdn⟩
    · refine hzW e he (fun w => ?_)
      have y' : ¬ (if e < m ∧ ¬ SE1 e = 0 then 0 else st e) = 0 := y
      rcases hst e with x | x
      · rw [x] at y'; exact y' w
      · exact y' x.1
    · refine hzR e he ?_
      have y' : (if e < m ∧ ¬ SE1 e = 0 then 0 else st e) = 2 := y
      rcases hst e with x | x
      · rw [x] at y'; exact y'
      · omega
end
