theorem bq_or (f : Nat → Bool) {p : Nat} (hp : p < 32) : ∀ i, i ≤ 32 → bt (rl_or f i) p = (decide (p < i) && f p) := by
  intro i
  induction i with
  | zero => intro _; show bt 0 p = _; rw [b_0]; simp
  | succ i ih =>
    intro hi
    have h := ih (by omega)
    by_cases a : f i = true
    · rw [rl_or_t a, b_or, h, bq_shl1 (by omega) hp]
      by_cases e : p = i
      · simp [e, a]
      · by_cases l : p < i
        · have : p < i + 1 := by omega
          simp [e, l, this]
        · have : ¬ p < i + 1 := by omega
          simp [e, l, this]
    · rw [rl_or_f a, h]
      by_cases e : p = i
      · rw [e]; simp [a]
      · by_cases l : p < i
        · have : p < i + 1 := by omega
          simp [l, this]
        · have : ¬ p < i + 1 := by omega
          simp [l, this]
theorem rl_orN (f : Nat → Bool) {n : Nat} (h2 : 2 ≤ n) (h4 : n ≤ 4) : ∃ j, j < 2 ^ n ∧ rl_or f n = nI j := by
  have : n = 2 ∨ n = 3 ∨ n = 4 := by omega
  rcases this with e | e | e <;> subst e
  · refine ⟨_, ?_, (rl_o2 f).1⟩
    cases f 0 <;> cases f 1 <;> decide
  · refine ⟨_, ?_, (rl_o3 f).1⟩
    cases f 0 <;> cases f 1 <;> cases f 2 <;> decide
  · refine ⟨_, ?_, (rl_o4 f).1⟩
    cases f 0 <;> cases f 1 <;> cases f 2 <;> cases f 3 <;> decide
def rq_R (n c m : Nat) (iv ct : Nat → Nat) (g : Nat → Nat → Nat) (st sd rc si ri : Nat → Nat) (H : Nat → Nat → Nat → Nat) (zI zS zW zN zR a1 a2 a3 b0 b2 b3 c0 c1 c3 d0 d1 d2 : Int64) (dn : Int32) (IV U CT NB ST SD RC SI RI : Nat → Int32) : Prop :=
  rl_A n c m iv ct g st sd rc si ri IV CT NB ST SD RC SI RI ∧ rq_I n m iv ct g st sd rc si ri (rl_dn U) H ∧ rq_Hs H a1 a2 a3 b0 b2 b3 c0 c1 c3 d0 d1 d2 ∧
  (∀ p, p < 4 → nk_v zI p = if p < n then iv p else 0) ∧ (∀ e, e < m → nk_v zS e = st e) ∧ (∀ e, e < m → ¬ st e = 0 → nk_v zW e = sd e + 4 * rc e ∧ nk_v zN e = si e) ∧
  (∀ e, e < m → st e = 2 → nk_v zR e = ri e) ∧ (∀ p, p < n → bt dn p = rl_dn U p)
theorem lq_cell {post : Int32 → Prop} {L : Nat} {xs : Nat → Int32} {u : St0} {j : Nat} (hL : L < 2 ^ 31) (hj : j < 2 ^ 31) (h : ∀ r, post r) : wpL_cell post L xs u (nI j) := by
  refine br_c (fun _ => h 0) (fun z => ⟨?_, h _⟩)
  have z' : ¬ nI L ≤ nI j := z
  rw [nI_leI hL hj] at z'
  exact vp_in_nI (by omega) hL
section
variable {n c m : Nat} {iv ct st sd rc si ri : Nat → Nat} {g : Nat → Nat → Nat}
variable {vX IV U CT NB SV ST SD RC PL SI RI LN ND SE : Nat → Int32}
variable {post : Int32 → Prop} {L kc ks kk : Nat} {xs : Nat → Int32} {x1 dn : Int32} {zI zS zW zN zR a1 a2 a3 b0 b2 b3 c0 c1 c3 d0 d1 d2 : Int64} {H : Nat → Nat → Nat → Nat}
theorem rq_R_top (hR : rq_R n c m iv ct g st sd rc si ri H zI zS zW zN zR a1 a2 a3 b0 b2 b3 c0 c1 c3 d0 d1 d2 dn IV U CT NB ST SD RC SI RI) (t : Int32) {x : Int64} (hx : ∀ p, p < 4 → nk_v x p = if p < n ∧ bt t p = false then nk_v zI p + 1 else nk_v zI p) : ∀ p, p < 4 → nk_v x p = rq_top n iv (fun p => bt t p) p := by
  intro p hp
  rw [hx p hp, hR.2.2.2.1 p hp]
  by_cases a : p < n
  · rw [if_pos a]
    by_cases b : bt t p = true
    · rw [if_neg (fun z => by rw [z.2] at b; exact absurd b (by decide)), rq_top_t a b]
    · have b' : bt t p = false := by
        cases h : bt t p
        · rfl
        · exact absurd h b
      rw [if_pos ⟨a, b'⟩, rq_top_f a b]
  · rw [if_neg (fun z => a z.1), if_neg a, rq_top_o a]
theorem rq_R_14 (hR : rq_R n c m iv ct g st sd rc si ri H zI zS zW zN zR a1 a2 a3 b0 b2 b3 c0 c1 c3 d0 d1 d2 dn IV U CT NB ST SD RC SI RI) : ∀ p, p < n → nk_v zI p ≤ 14 := by
  intro p hp
  have n4 := hR.1.1.1.1.2
  rw [hR.2.2.2.1 p (by omega), if_pos hp]
  exact hR.2.1.1 p hp
/-- one answer of probe, and of needed -/
theorem lq_1528 (hR : rq_R n c m iv ct g st sd rc si ri H zI zS zW zN zR a1 a2 a3 b0 b2 b3 c0 c1 c3 d0 d1 d2 dn IV U CT NB ST SD RC SI RI) {J : Int64 → Int64 → Int64 → Int64 → Int64 → Int64 → Int64 → Int64 → Int64 → Int64 → Int64 → Int64 → Int64 → Int64 → Int64 → Int64 → Int64 → Int32 → Int32 → Int32 → Int32 → Int32 → (Nat → Int32) → (Nat → Int32) → (Nat → Int32) → (Nat → Int32) → (Nat → Int32) → (Nat → Int32) → (Nat → Int32) → (Nat → Int32) → (Nat → Int32) → (Nat → Int32) → (Nat → Int32) → (Nat → Int32) → (Nat → Int32) → (Nat → Int32) → (Nat → Int32) → Prop} {J1426 J1492 : Int32 → Int32 → Int32 → Int32 → (Nat → Int32) → (Nat → Int32) → (Nat → Int32) → (Nat → Int32) → (Nat → Int32) → (Nat → Int32) → (Nat → Int32) → (Nat → Int32) → (Nat → Int32) → (Nat → Int32) → (Nat → Int32) → (Nat → Int32) → (Nat → Int32) → (Nat → Int32) → (Nat → Int32) → Prop} {z : Int64} {mk p : Nat} {r z0 : Int32} {M : Nat → Nat} (hp : p < n) (hmk : mk < 2 ^ n)
    (hMM : rl_IsL 4 (rq_top n iv (fun p => bt (dn ||| nI mk) p)) (rq_C H) M) (hz0 : z0 = if M p ≤ iv p then nI (M p) else 1000)
    (hnext : ∀ LN ND SE, J1492 (nI p + 1) (nI n) (nI c) (nI m) vX IV U CT NB SV ST SD RC PL SI RI LN ND SE) : wL_law_1528 post L xs J J1426 J1492 x1 (nI n) (nI m) zI zS zW zN zR a1 a2 a3 b0 b2 b3 c0 c1 c3 d0 d1 d2 dn (nI kk) (nI mk) z (nI mk ||| (r <<< (nI n &&& 31))) (nI p) z0 kc ks (nI n) (nI c) (nI m) vX IV U CT NB SV ST SD RC PL SI RI LN ND SE := by
  obtain ⟨hA, hI, hH, hzI, hzS, hzW, hzR, hdn⟩ := hR
  have hA' := hA
  obtain ⟨hW, hIV, hCT, hNB, hST, hSD, hRC, hSI, hRI⟩ := hA'
  have hW' := hW
  obtain ⟨⟨⟨n2, n4⟩, ⟨c3h, c8⟩, ⟨m4, m16⟩⟩, hS, hM, hB⟩ := hW'
  obtain ⟨s1, s2, s3, s4, s5⟩ := hS p hp
  have h16 := rl_16 n4
  have hbit : ∀ q, q < n → bt (rl_or (rl_dn U) n ||| (nI mk ||| (r <<< (nI n &&& 31)))) q = bt (dn ||| nI mk) q := by
    intro q hq
    have l1 : ¬ n ≤ q := by omega
    rw [b_or, b_or, b_or, bq_or _ (by omega) n (by omega), b_shl n (by omega) r (by omega), hdn q hq]
    simp [hq, l1]
  obtain ⟨Lx, hLx⟩ := rl_exL hW (rl_or (rl_dn U) n ||| (nI mk ||| (r <<< (nI n &&& 31))))
  have hTX : ∀ q, q < n → ((fun p => bt (dn ||| nI mk) p) q = true ↔ ¬ ((rl_or (rl_dn U) n ||| (nI mk ||| (r <<< (nI n &&& 31)))) &&& ((1 : Int32) <<< (nI q &&& 31))) = 0) := by
    intro q hq
    rw [bq_shl _ (by omega), hbit q hq]
    show bt (dn ||| nI mk) q = true ↔ ¬ bt (dn ||| nI mk) q = false
    cases bt (dn ||| nI mk) q <;> decide
  have hD : ∀ q, q < n → rl_dn U q = true → (fun p => bt (dn ||| nI mk) p) q = true := by
    intro q hq h
    show bt (dn ||| nI mk) q = true
    rw [b_or, hdn q hq, h]; rfl
  have hEq := rq_eq hW hI hD hTX hMM hLx p hp
  have h14 := hI.1 p hp
  unfold wL_law_1528
  refine rx_probe hA hp hLx (fun a LN1 => ?_) (fun a LN1 => ?_)
  · rw [rl_G_in a] at hEq
    have hg := s4 _ a
    have hle : M p ≤ iv p := by omega
    rw [if_pos hle] at hz0
    have hne : ¬ nI (M p) = 1000 := fun w => absurd ((nI_eq (b := 1000) (by omega) (by decide)).mp w) (by omega)
    refine br_t (by rw [hz0, hEq]) ?_
    by_cases b : mk = 0
    · refine br_t (by rw [b]; rfl) ?_
      refine br_f (by rw [hz0]; exact hne) ?_
      obtain ⟨Ls, hLs⟩ := Classical.axiomOfChoice (rl_exL hW)
      obtain ⟨j, hj, ej⟩ := rl_orN (rl_dn U) n2 n4
      rw [hz0, hEq]
      refine rx_needed hA hp a hLs ⟨j, hj, ?_, ?_⟩ (fun LN2 ND2 SE2 => ?_)
      · rw [ej]
        refine b_ext (fun i _ => ?_)
        rw [b_and, Bool.and_self]
      · have hb0 : ∀ q, q < n → rl_tp ct (nI j) q = rl_tp ct (rl_or (rl_dn U) n ||| (nI mk ||| (r <<< (nI n &&& 31)))) q := by
          intro q hq
          have l1 : bt (nI j) q = bt (rl_or (rl_dn U) n ||| (nI mk ||| (r <<< (nI n &&& 31)))) q := by
            rw [hbit q hq, ← ej, bq_or _ (by omega) n (by omega), b_or, hdn q hq, b]
            have : bt (nI 0) q = false := b_0 q
            rw [this]
            simp [hq]
          unfold rl_tp
          by_cases w : bt (nI j) q = false
          · rw [if_pos ((bq_shl _ (by omega)).mpr w), if_pos ((bq_shl _ (by omega)).mpr (by rw [← l1]; exact w))]
          · rw [if_neg (fun y => w ((bq_shl _ (by omega)).mp y)), if_neg (fun y => w (by rw [l1]; exact (bq_shl _ (by omega)).mp y))]
        have hA1 := hLs (nI j)
        have u1 := hLx.2.2 (Ls (nI j)) (fun q hq => by rw [← hb0 q hq]; exact hA1.1 q hq) hA1.2.1 p hp
        have u2 := hA1.2.2 Lx (fun q hq => by rw [hb0 q hq]; exact hLx.1 q hq) hLx.2.1 p hp
        omega
      · exact br_t rfl (nm_e (hnext LN2 ND2 SE2))
    · refine br_f (fun w => b ((rl_eq0 (by omega)).mp w)) ?_
      exact nm_e (hnext LN1 ND SE)
  · rw [rl_G_now a] at hEq
    rw [if_neg (by omega)] at hz0
    refine br_t (by rw [hz0]) ?_
    by_cases b : mk = 0
    · refine br_t (by rw [b]; rfl) ?_
      exact br_t hz0 (nm_e (hnext LN1 ND SE))
    · refine br_f (fun w => b ((rl_eq0 (by omega)).mp w)) ?_
      exact nm_e (hnext LN1 ND SE)
theorem lq_1492 (hR : rq_R n c m iv ct g st sd rc si ri H zI zS zW zN zR a1 a2 a3 b0 b2 b3 c0 c1 c3 d0 d1 d2 dn IV U CT NB ST SD RC SI RI) {J : Int64 → Int64 → Int64 → Int64 → Int64 → Int64 → Int64 → Int64 → Int64 → Int64 → Int64 → Int64 → Int64 → Int64 → Int64 → Int64 → Int64 → Int32 → Int32 → Int32 → Int32 → Int32 → (Nat → Int32) → (Nat → Int32) → (Nat → Int32) → (Nat → Int32) → (Nat → Int32) → (Nat → Int32) → (Nat → Int32) → (Nat → Int32) → (Nat → Int32) → (Nat → Int32) → (Nat → Int32) → (Nat → Int32) → (Nat → Int32) → (Nat → Int32) → (Nat → Int32) → Prop} {J1426 : Int32 → Int32 → Int32 → Int32 → (Nat → Int32) → (Nat → Int32) → (Nat → Int32) → (Nat → Int32) → (Nat → Int32) → (Nat → Int32) → (Nat → Int32) → (Nat → Int32) → (Nat → Int32) → (Nat → Int32) → (Nat → Int32) → (Nat → Int32) → (Nat → Int32) → (Nat → Int32) → (Nat → Int32) → Prop} {z : Int64} {mk : Nat} {r : Int32} {M : Nat → Nat} (hmk : mk < 2 ^ n)
    (hM : rl_IsL 4 (rq_top n iv (fun p => bt (dn ||| nI mk) p)) (rq_C H) M) (hz : ∀ p, p < 4 → nk_v z p = M p) (hnext : ∀ LN ND SE, J1426 (nI mk + 1) (nI n) (nI c) (nI m) vX IV U CT NB SV ST SD RC PL SI RI LN ND SE) :
    ∀ (fu i : Nat) (LN ND SE : Nat → Int32), n < fu + i → i ≤ n → wL_law_1492 post L xs J J1426 x1 (nI n) (nI m) zI zS zW zN zR a1 a2 a3 b0 b2 b3 c0 c1 c3 d0 d1 d2 dn (nI kk) (nI mk) z (nI mk ||| (r <<< (nI n &&& 31))) kc ks fu (nI i) (nI n) (nI c) (nI m) vX IV U CT NB SV ST SD RC PL SI RI LN ND SE := by
  have n4 := hR.1.1.1.1.2
  have h14 := rq_R_14 hR
  intro fu
  induction fu with
  | zero => intro i LN ND SE q1 q2; omega
  | succ fu ih =>
    intro i LN ND SE q1 q2
    by_cases e : n ≤ i
    · have e' : nI n ≤ nI i := nI_le e (by omega)
      rw [wL_law_1492]
      exact br_t e' (nm_e (hnext LN ND SE))
    · have e' : ¬ nI n ≤ nI i := nI_ge (by omega) (by omega)
      have hzi := hz i (by omega)
      have hIi := hR.2.2.2.1 i (by omega)
      rw [if_pos (by omega)] at hIi
      have hl := nk_lt z i
      have hl2 := nk_lt zI i
      have nx : ∀ LN ND SE, wL_law_1492 post L xs J J1426 x1 (nI n) (nI m) zI zS zW zN zR a1 a2 a3 b0 b2 b3 c0 c1 c3 d0 d1 d2 dn (nI kk) (nI mk) z (nI mk ||| (r <<< (nI n &&& 31))) kc ks fu (nI i + 1) (nI n) (nI c) (nI m) vX IV U CT NB SV ST SD RC PL SI RI LN ND SE := by
        intro LN ND SE
        rw [nI_1]
        exact ih (i + 1) LN ND SE (by omega) (by omega)
      rw [wL_law_1492]
      refine br_f e' ?_
      refine wl_nib (by omega) ?_
      refine wl_nib (by omega) ?_
      rw [hzi, hIi]
      by_cases l : M i ≤ iv i
      · refine br_t (nI_le l (by omega)) ?_
        refine wl_nib (by omega) ?_
        rw [hzi]
        exact lq_1528 hR (by omega) hmk hM (by rw [if_pos l]) nx
      · refine br_f (nI_ge (by omega) (by omega)) ?_
        exact lq_1528 hR (by omega) hmk hM (by rw [if_neg l]) nx
theorem lq_1426 (hR : rq_R n c m iv ct g st sd rc si ri H zI zS zW zN zR a1 a2 a3 b0 b2 b3 c0 c1 c3 d0 d1 d2 dn IV U CT NB ST SD RC SI RI) {J : Int64 → Int64 → Int64 → Int64 → Int64 → Int64 → Int64 → Int64 → Int64 → Int64 → Int64 → Int64 → Int64 → Int64 → Int64 → Int64 → Int64 → Int32 → Int32 → Int32 → Int32 → Int32 → (Nat → Int32) → (Nat → Int32) → (Nat → Int32) → (Nat → Int32) → (Nat → Int32) → (Nat → Int32) → (Nat → Int32) → (Nat → Int32) → (Nat → Int32) → (Nat → Int32) → (Nat → Int32) → (Nat → Int32) → (Nat → Int32) → (Nat → Int32) → (Nat → Int32) → Prop} (hL : L ≤ 260) (hkk : kk ≤ 1000) (hJ : ∀ LN ND SE, J zI zS zW zN zR a1 a2 a3 b0 b2 b3 c0 c1 c3 d0 d1 d2 dn (nI kk + 2) (nI n) (nI c) (nI m) vX IV U CT NB SV ST SD RC PL SI RI LN ND SE) :
    ∀ (fu mk : Nat) (LN ND SE : Nat → Int32), 2 ^ n < fu + mk → mk ≤ 2 ^ n → wL_law_1426 post L xs J x1 (nI n) (nI m) zI zS zW zN zR a1 a2 a3 b0 b2 b3 c0 c1 c3 d0 d1 d2 dn (nI kk) kc ks fu (nI mk) (nI n) (nI c) (nI m) vX IV U CT NB SV ST SD RC PL SI RI LN ND SE := by
  have n4 := hR.1.1.1.1.2
  have n2 := hR.1.1.1.1.1
  have h16 := rl_16 n4
  have h14 := rq_R_14 hR
  intro fu
  induction fu with
  | zero => intro mk LN ND SE q1 q2; omega
  | succ fu ih =>
    intro mk LN ND SE q1 q2
    by_cases e : 2 ^ n ≤ mk
    · have e' : (1 : Int32) <<< (nI n &&& 31) ≤ nI mk := by rw [rl_1n n2 n4]; exact nI_le e (by omega)
      rw [wL_law_1426]
      exact br_t e' (nm_e (hJ LN ND SE))
    · have e' : ¬ (1 : Int32) <<< (nI n &&& 31) ≤ nI mk := by rw [rl_1n n2 n4]; exact nI_ge (by omega) (by omega)
      rw [wL_law_1426]
      refine br_f e' ?_
      refine wl_top n4 h14 (fun x hx => ?_)
      obtain ⟨M, hM⟩ := rq_ex n iv (fun p => bt (dn ||| nI mk) p) H
      refine wl_line hM hR.2.2.1 (rq_R_top hR _ hx) (fun z hz => ?_)
      rw [nI_1]
      refine lq_cell (by omega) (by omega) (fun r => ?_)
      refine nm_e ?_
      refine ⟨n + 1, lq_1492 hR (by omega) hM hz (fun LN1 ND1 SE1 => ?_) (n + 1) 0 LN ND SE (by omega) (by omega)⟩
      rw [nI_1]
      exact ih (mk + 1) LN1 ND1 SE1 (by omega) (by omega)
theorem lq_1367 (hR : rq_R n c m iv ct g st sd rc si ri H zI zS zW zN zR a1 a2 a3 b0 b2 b3 c0 c1 c3 d0 d1 d2 dn IV U CT NB ST SD RC SI RI) {J : Int64 → Int64 → Int64 → Int64 → Int64 → Int64 → Int64 → Int64 → Int64 → Int64 → Int64 → Int64 → Int64 → Int64 → Int64 → Int64 → Int64 → Int32 → Int32 → Int32 → Int32 → Int32 → (Nat → Int32) → (Nat → Int32) → (Nat → Int32) → (Nat → Int32) → (Nat → Int32) → (Nat → Int32) → (Nat → Int32) → (Nat → Int32) → (Nat → Int32) → (Nat → Int32) → (Nat → Int32) → (Nat → Int32) → (Nat → Int32) → (Nat → Int32) → (Nat → Int32) → Prop} (hL : L ≤ 260) (hkk : kk ≤ 1000) (hJ : ∀ LN ND SE, J zI zS zW zN zR a1 a2 a3 b0 b2 b3 c0 c1 c3 d0 d1 d2 dn (nI kk + 2) (nI n) (nI c) (nI m) vX IV U CT NB SV ST SD RC PL SI RI LN ND SE) :
    ∀ (fu p : Nat), n < fu + p → p ≤ n → wL_law_1367 post L xs J x1 (nI n) (nI m) zI zS zW zN zR a1 a2 a3 b0 b2 b3 c0 c1 c3 d0 d1 d2 dn (nI kk) kc ks (nI n) (nI c) (nI m) vX IV U CT NB SV ST SD RC PL SI RI LN ND SE fu (nI p) := by
  have n4 := hR.1.1.1.1.2
  intro fu
  induction fu with
  | zero => intro p q1 q2; omega
  | succ fu ih =>
    intro p q1 q2
    by_cases e : n ≤ p
    · rw [wL_law_1367]
      refine br_t (nI_le e (by omega)) ?_
      exact ⟨2 ^ n + 1, lq_1426 hR hL hkk hJ (2 ^ n + 1) 0 LN ND SE (by omega) (Nat.zero_le _)⟩
    · have hIi := hR.2.2.2.1 p (by omega)
      rw [if_pos (by omega)] at hIi
      have hdn := hR.2.2.2.2.2.2.2 p (by omega)
      have nx : wL_law_1367 post L xs J x1 (nI n) (nI m) zI zS zW zN zR a1 a2 a3 b0 b2 b3 c0 c1 c3 d0 d1 d2 dn (nI kk) kc ks (nI n) (nI c) (nI m) vX IV U CT NB SV ST SD RC PL SI RI LN ND SE fu (nI p + 1) := by
        rw [nI_1]; exact ih (p + 1) (by omega) (by omega)
      rw [wL_law_1367]
      refine br_f (nI_ge (by omega) (by omega)) ?_
      refine rx_intv (iv := iv) (by omega) n4 (hR.1.2.1 p) ?_
      refine wl_nib (by omega) ?_
      rw [hIi]
      refine br_t rfl ?_
      refine rx_isUp (by omega) n4 (fun a => ?_) (fun a => ?_)
      · have hb : ¬ ((dn >>> (nI p &&& 31)) &&& 1) = 0 := by
          rw [bq_shr dn (by omega), hdn]
          intro z
          have : rl_dn U p = true := decide_eq_true a
          rw [this] at z
          exact absurd z (by decide)
        refine br_f hb ?_
        exact br_t rfl (nm_e nx)
      · have hb : ((dn >>> (nI p &&& 31)) &&& 1) = 0 := by
          rw [bq_shr dn (by omega), hdn]
          exact decide_eq_false a
        refine br_t hb ?_
        exact br_t rfl (nm_e nx)
theorem lq_1332_l (hR : rq_R n c m iv ct g st sd rc si ri H zI zS zW zN zR a1 a2 a3 b0 b2 b3 c0 c1 c3 d0 d1 d2 dn IV U CT NB ST SD RC SI RI) {J : Int64 → Int64 → Int64 → Int64 → Int64 → Int64 → Int64 → Int64 → Int64 → Int64 → Int64 → Int64 → Int64 → Int64 → Int64 → Int64 → Int64 → Int32 → Int32 → Int32 → Int32 → Int32 → (Nat → Int32) → (Nat → Int32) → (Nat → Int32) → (Nat → Int32) → (Nat → Int32) → (Nat → Int32) → (Nat → Int32) → (Nat → Int32) → (Nat → Int32) → (Nat → Int32) → (Nat → Int32) → (Nat → Int32) → (Nat → Int32) → (Nat → Int32) → (Nat → Int32) → Prop} (hL : L ≤ 260) (hkk : kk ≤ 1000) (hJ : ∀ LN ND SE, J zI zS zW zN zR a1 a2 a3 b0 b2 b3 c0 c1 c3 d0 d1 d2 dn (nI kk + 2) (nI n) (nI c) (nI m) vX IV U CT NB SV ST SD RC PL SI RI LN ND SE) :
    ∀ (fu e : Nat), m < fu + e → e ≤ m → wL_law_1332 post L xs J x1 (nI n) (nI m) zI zS zW zN zR a1 a2 a3 b0 b2 b3 c0 c1 c3 d0 d1 d2 dn (nI kk) kc ks (nI n) (nI c) (nI m) vX IV U CT NB SV ST SD RC PL SI RI LN ND SE fu (nI e) := by
  have m16 := hR.1.1.1.2.2.2
  intro fu
  induction fu with
  | zero => intro e q1 q2; omega
  | succ fu ih =>
    intro e q1 q2
    by_cases a : m ≤ e
    · rw [wL_law_1332]
      refine br_t (nI_le a (by omega)) ?_
      exact ⟨n + 1, lq_1367 hR hL hkk hJ (n + 1) 0 (by omega) (by omega)⟩
    · have hs := hR.2.2.2.2.1 e (by omega)
      rw [wL_law_1332]
      refine br_f (nI_ge (by omega) (by omega)) ?_
      refine rx_msg0 (st := st) (by omega) m16 (hR.1.2.2.2.2.1 e) ?_
      refine wl_nib (by omega) ?_
      rw [hs]
      refine br_t rfl ?_
      refine nm_e ?_
      rw [nI_1]
      exact ih (e + 1) (by omega) (by omega)
theorem lq_chk (hR : rq_R n c m iv ct g st sd rc si ri H zI zS zW zN zR a1 a2 a3 b0 b2 b3 c0 c1 c3 d0 d1 d2 dn IV U CT NB ST SD RC SI RI) {J : Int64 → Int64 → Int64 → Int64 → Int64 → Int64 → Int64 → Int64 → Int64 → Int64 → Int64 → Int64 → Int64 → Int64 → Int64 → Int64 → Int64 → Int32 → Int32 → Int32 → Int32 → Int32 → (Nat → Int32) → (Nat → Int32) → (Nat → Int32) → (Nat → Int32) → (Nat → Int32) → (Nat → Int32) → (Nat → Int32) → (Nat → Int32) → (Nat → Int32) → (Nat → Int32) → (Nat → Int32) → (Nat → Int32) → (Nat → Int32) → (Nat → Int32) → (Nat → Int32) → Prop} (hL : L ≤ 260) (hkk : kk ≤ 1000) (hJ : ∀ LN ND SE, J zI zS zW zN zR a1 a2 a3 b0 b2 b3 c0 c1 c3 d0 d1 d2 dn (nI kk + 2) (nI n) (nI c) (nI m) vX IV U CT NB SV ST SD RC PL SI RI LN ND SE) : ∃ fu, wL_law_1332 post L xs J x1 (nI n) (nI m) zI zS zW zN zR a1 a2 a3 b0 b2 b3 c0 c1 c3 d0 d1 d2 dn (nI kk) kc ks (nI n) (nI c) (nI m) vX IV U CT NB SV ST SD RC PL SI RI LN ND SE fu 0 :=
  ⟨m + 1, lq_1332_l hR hL hkk hJ (m + 1) 0 (by omega) (by omega)⟩
end
