section
variable {n c m : Nat} {iv ct st sd rc si ri : Nat → Nat} {g : Nat → Nat → Nat}
variable {vX IV U CT NB SV ST SD RC PL SI RI LN ND SE : Nat → Int32}
variable {post : Int32 → Prop} {L kc ks kk : Nat} {xs : Nat → Int32} {x1 dn : Int32} {zI zS zW zN zR a1 a2 a3 b0 b2 b3 c0 c1 c3 d0 d1 d2 : Int64} {H : Nat → Nat → Nat → Nat}
theorem lq_175 {J : Int64 → Int64 → Int64 → Int64 → Int64 → Int64 → Int64 → Int64 → Int64 → Int64 → Int64 → Int64 → Int64 → Int64 → Int64 → Int64 → Int64 → Int32 → Int32 → Int32 → Int32 → Int32 → (Nat → Int32) → (Nat → Int32) → (Nat → Int32) → (Nat → Int32) → (Nat → Int32) → (Nat → Int32) → (Nat → Int32) → (Nat → Int32) → (Nat → Int32) → (Nat → Int32) → (Nat → Int32) → (Nat → Int32) → (Nat → Int32) → (Nat → Int32) → (Nat → Int32) → Prop} (hJ : rq_J n c m kk J) (hL : L ≤ 260) (hkk : kk ≤ 1000) (hR : rq_R n c m iv ct g st sd rc si ri H zI zS zW zN zR a1 a2 a3 b0 b2 b3 c0 c1 c3 d0 d1 d2 dn IV U CT NB ST SD RC SI RI) {x41 : Int32} {v p q : Nat} (hv : v < 2 ^ 31) (hp : p < n) (hq : q < n) (hpq : p ≠ q) :
    ∀ (fu i : Nat) (x45 : Int32), m < fu + i → i ≤ m → (x45 < 0 ∨ ∃ e, e < m ∧ st e = 1 ∧ x45 = nI e) → wL_law_175 post L xs J x1 (nI n) (nI m) zI zS zW zN zR a1 a2 a3 b0 b2 b3 c0 c1 c3 d0 d1 d2 dn (nI kk) x41 (nI v) (nI p) (nI q) kc ks (nI n) (nI c) (nI m) vX IV U CT NB SV ST SD RC PL SI RI LN ND SE fu x45 (nI i) := by
  have hR' := hR
  obtain ⟨hA, hI, hH, hzI, hzS, hzW, hzR, hdn⟩ := hR'
  have hA' := hA
  obtain ⟨hW, hIV, hCT, hNB, hST, hSD, hRC, hSI, hRI⟩ := hA'
  have hW' := hW
  obtain ⟨⟨⟨n2, n4⟩, ⟨c3h, c8⟩, ⟨m4, m16⟩⟩, hS, hM, hB⟩ := hW'
  have hgo := lq_go (kc := kc) (ks := ks) (post := post) (xs := xs) (x1 := x1) (vX := vX) (SV := SV) (PL := PL) (LN := LN) (ND := ND) (SE := SE) hJ hL hkk hR
  intro fu
  induction fu with
  | zero => intro i x45 q1 q2; omega
  | succ fu ih =>
    intro i x45 q1 q2 hat
    rw [wL_law_175]
    by_cases a : m ≤ i
    · refine br_t (nI_le a (by omega)) ?_
      refine ⟨fun _ => lq_230 hJ hL hkk hR hp, fun _ => ⟨fun _ => lq_230 hJ hL hkk hR hp, fun _ => ⟨fun _ => lq_306 hJ hL hkk hR hp hq hpq, fun _ => ⟨fun _ => lq_306 hJ hL hkk hR hp hq hpq,
        fun _ => ⟨fun _ => lq_306 hJ hL hkk hR hp hq hpq, fun _ => ⟨fun _ => lq_405 hJ hL hkk hR hat, fun _ => ⟨fun _ => lq_405 hJ hL hkk hR hat, fun _ => ⟨fun _ => lq_405 hJ hL hkk hR hat,
        fun _ => ⟨fun _ => ?_, fun _ => ⟨fun _ => ?_, fun _ => ⟨fun _ => ?_, fun _ => ⟨fun _ => ?_, fun _ => ?_⟩⟩⟩⟩⟩⟩⟩⟩⟩⟩⟩⟩
      · refine rx_crash hp n4 (fun u => br_f (by decide) hgo) (fun u => ?_)
        refine br_t rfl (nm_e ?_)
        refine lq_go hJ hL hkk (iv := iv) (ct := ct) (g := g) (st := st) (sd := sd) (rc := rc) (si := si) (ri := ri) (H := H) ⟨hA, rq_I_crash hI (fun r hr w => ?_), hH, hzI, hzS, hzW, hzR, fun r hr => ?_⟩
        · unfold rl_dn
          by_cases e : r = p
          · rw [e, pk_us]; decide
          · rw [pk_un e]; exact w
        · rw [b_or, bq_shl1 (by omega) (by omega), hdn r hr]
          unfold rl_dn
          by_cases e : r = p
          · rw [e, pk_us]; simp
          · rw [pk_un e]; simp [e]
      · refine wl_top n4 (rq_R_14 hR) (fun x hx => ?_)
        obtain ⟨M, hMM⟩ := rq_ex n iv (rl_dn U) H
        have hx2 := rq_R_top hR dn hx
        rw [rq_R_topD hR] at hx2
        refine wl_line hMM hH hx2 (fun z hz => ?_)
        exact ⟨m + 1, lq_838 hJ hL hkk hR hMM hz (m + 1) 0 zS (by omega) (by omega) (fun f hf => by rw [if_neg (by omega)]; exact hzS f hf)⟩
      · obtain ⟨M, hMM⟩ := rq_ex n iv (fun _ => true) H
        refine wl_line hMM hH (fun r hr => ?_) (fun z hz => ?_)
        · rw [hzI r hr]
          by_cases w : r < n
          · rw [if_pos w, rq_top_t w rfl]
          · rw [if_neg w, rq_top_o w]
        · exact lq_reclaim hJ hL hkk hR hMM hz (fun r vX1 IV1 U1 CT1 NB1 SV1 ST1 SD1 RC1 PL1 SI1 RI1 LN1 ND1 SE1 hh => hh)
      · refine rx_step hp n4 (fun r vX1 => ?_)
        exact lq_go hJ hL hkk hR
      · rcases hat with h | ⟨e, he, h1, rfl⟩
        · exact br_t h hgo
        · refine br_f (nI_pos (by omega)) ?_
          refine rx_lose (st := st) he m16 (hST e) (hM.1 e).1 (fun w => absurd h1 w) (fun _ => ?_)
          refine br_t rfl ?_
          refine wl_set (v := 0) (by omega) (by omega) (fun z hz => ?_)
          have hdrop : ∀ f, rl_u st e 0 f = st f ∨ (rl_u st e 0 f = 0 ∧ ¬ st f = 2) := by
            intro f
            by_cases w : f = e
            · rw [w, rl_us]; exact Or.inr ⟨rfl, by omega⟩
            · rw [rl_un w]; exact Or.inl rfl
          refine lq_go hJ hL hkk (iv := iv) (ct := ct) (g := g) (st := rl_u st e 0) (sd := sd) (rc := rc) (si := si) (ri := ri) (H := H)
            ⟨⟨rl_W_drop hW (fun f => (hdrop f).imp id (fun w => w.1)), hIV, hCT, hNB, rl_uI hST e 0, hSD, hRC, hSI, hRI⟩, rq_I_st hI hdrop, hH, hzI, fun f hf => ?_, fun f hf y => ?_, fun f hf y => ?_, hdn⟩
          · rw [hz f (by omega)]
            by_cases w : f = e
            · rw [if_pos w, w, rl_us]
            · rw [if_neg w, rl_un w]; exact hzS f hf
          · by_cases w : f = e
            · rw [w, rl_us] at y; exact absurd rfl y
            · rw [rl_un w] at y; exact hzW f hf y
          · by_cases w : f = e
            · rw [w, rl_us] at y; omega
            · rw [rl_un w] at y; exact hzR f hf y
    · have hm0 : ¬ nI m = 0 := nI_ne0 (by omega) (by omega)
      refine br_f (nI_ge (by omega) (by omega)) ⟨hm0, hm0, ?_⟩
      have hlt := Nat.mod_lt v (show 0 < m by omega)
      have e1 : nI v - nI v / nI m * nI m = nI (v % m) := pk_rem hv (by omega) (by omega)
      have e2 : nI (v % m + i) - nI (v % m + i) / nI m * nI m = nI ((v % m + i) % m) := pk_rem (by omega) (by omega) (by omega)
      have hlt2 := Nat.mod_lt (v % m + i) (show 0 < m by omega)
      rw [e1, nI_add, e2]
      refine nm_e ?_
      refine br_c (fun w => ?_) (fun w => ?_)
      · refine nm_e ?_
        rw [nI_1]
        exact ih (i + 1) x45 (by omega) (by omega) hat
      · refine wl_nib (by omega) ?_
        rw [hzS _ hlt2]
        have t1 := (hM.1 ((v % m + i) % m)).1
        refine br_c (fun y => ?_) (fun y => ?_)
        · refine nm_e ?_
          rw [nI_1]
          exact ih (i + 1) _ (by omega) (by omega) (Or.inr ⟨_, hlt2, (rl_eq1 (by omega)).mp y, rfl⟩)
        · refine nm_e ?_
          rw [nI_1]
          exact ih (i + 1) x45 (by omega) (by omega) hat
theorem lq_121 {J : Int64 → Int64 → Int64 → Int64 → Int64 → Int64 → Int64 → Int64 → Int64 → Int64 → Int64 → Int64 → Int64 → Int64 → Int64 → Int64 → Int64 → Int32 → Int32 → Int32 → Int32 → Int32 → (Nat → Int32) → (Nat → Int32) → (Nat → Int32) → (Nat → Int32) → (Nat → Int32) → (Nat → Int32) → (Nat → Int32) → (Nat → Int32) → (Nat → Int32) → (Nat → Int32) → (Nat → Int32) → (Nat → Int32) → (Nat → Int32) → (Nat → Int32) → (Nat → Int32) → Prop} (hJ : rq_J n c m kk J) (hL : L ≤ 260) (hkk : kk ≤ 1000) (hR : rq_R n c m iv ct g st sd rc si ri H zI zS zW zN zR a1 a2 a3 b0 b2 b3 c0 c1 c3 d0 d1 d2 dn IV U CT NB ST SD RC SI RI) (hx1 : x1 = 2147483647) : wL_law_121 post L xs J x1 (nI n) (nI m) zI zS zW zN zR a1 a2 a3 b0 b2 b3 c0 c1 c3 d0 d1 d2 dn (nI kk) kc ks (nI n) (nI c) (nI m) vX IV U CT NB SV ST SD RC PL SI RI LN ND SE := by
  have n4 := hR.1.1.1.1.2
  have n2 := hR.1.1.1.1.1
  unfold wL_law_121
  refine lq_cell (by omega) (by omega) (fun r1 => ?_)
  refine ⟨by decide, nm_e ?_⟩
  rw [nI_1]
  refine lq_cell (by omega) (by omega) (fun r2 => ?_)
  obtain ⟨v, hv, ev⟩ := pk_andE r2 (m := 2147483647) 31 (by decide)
  rw [hx1, ev]
  refine nm_e ?_
  have hn0 : ¬ nI n = 0 := nI_ne0 (by omega) (by omega)
  have en1 : nI n - 1 = nI (n - 1) := by
    have := nI_pred (n - 1)
    have e : n - 1 + 1 = n := by omega
    rw [e] at this
    exact this
  have hn1 : ¬ nI (n - 1) = 0 := nI_ne0 (by omega) (by omega)
  have hd : v / n ≤ v := Nat.div_le_self _ _
  have hp := Nat.mod_lt v (show 0 < n by omega)
  have ht := Nat.mod_lt (v / n) (show 0 < n - 1 by omega)
  rw [pk_rem hv (by omega) (by omega), pk_div hv (by omega) (by omega), en1, pk_rem (by omega) (by omega) (by omega)]
  have hq := Nat.mod_lt (v % n + 1 + v / n % (n - 1)) (show 0 < n by omega)
  have hpq : v % n ≠ (v % n + 1 + v / n % (n - 1)) % n := by
    generalize v % n = p at hp
    generalize v / n % (n - 1) = t at ht
    have : n = 2 ∨ n = 3 ∨ n = 4 := by omega
    rcases this with e | e | e <;> subst e <;> omega
  refine ⟨hn0, nm_e ⟨hn0, hn1, hn0, ?_⟩⟩
  rw [nI_1 (v % n), nI_add, pk_rem (by omega) (by omega) (by omega)]
  refine nm_e ?_
  exact ⟨m + 1, lq_175 hJ hL hkk hR hv hp hq hpq (m + 1) 0 (-1) (by omega) (by omega) (Or.inl (by decide))⟩
theorem lq_108 (hL : L ≤ 260) (hp1 : post 1) (hx1 : x1 = 2147483647) :
    ∀ (fu kk : Nat) (iv ct : Nat → Nat) (g : Nat → Nat → Nat) (st sd rc si ri : Nat → Nat) (H : Nat → Nat → Nat → Nat) (zI zS zW zN zR a1 a2 a3 b0 b2 b3 c0 c1 c3 d0 d1 d2 : Int64) (dn : Int32)
    (vX IV U CT NB SV ST SD RC PL SI RI LN ND SE : Nat → Int32), 600 < fu + kk → kk ≤ 262 → rq_R n c m iv ct g st sd rc si ri H zI zS zW zN zR a1 a2 a3 b0 b2 b3 c0 c1 c3 d0 d1 d2 dn IV U CT NB ST SD RC SI RI → wL_law_108 post L xs x1 (nI n) (nI m) kc ks fu zI zS zW zN zR a1 a2 a3 b0 b2 b3 c0 c1 c3 d0 d1 d2 dn (nI kk) (nI n) (nI c) (nI m) vX IV U CT NB SV ST SD RC PL SI RI LN ND SE := by
  intro fu
  induction fu with
  | zero => intro kk _ _ _ _ _ _ _ _ _ _ _ _ _ _ _ _ _ _ _ _ _ _ _ _ _ _ _ _ _ _ _ _ _ _ _ _ _ _ _ _ _ _ _ q1 q2; omega
  | succ fu ih =>
    intro kk iv ct g st sd rc si ri H zI zS zW zN zR a1 a2 a3 b0 b2 b3 c0 c1 c3 d0 d1 d2 dn vX IV U CT NB SV ST SD RC PL SI RI LN ND SE q1 q2 hR
    rw [wL_law_108]
    have hJ : kk + 2 ≤ 262 → rq_J n c m kk (wL_law_108 post L xs x1 (nI n) (nI m) kc ks fu) := by
      intro hk iv ct g st sd rc si ri H zI zS zW zN zR a1 a2 a3 b0 b2 b3 c0 c1 c3 d0 d1 d2 dn vX IV U CT NB SV ST SD RC PL SI RI LN ND SE hR2
      have e : nI kk + 2 = nI (kk + 2) := nI_add kk 2
      rw [e]
      exact ih (kk + 2) iv ct g st sd rc si ri H zI zS zW zN zR a1 a2 a3 b0 b2 b3 c0 c1 c3 d0 d1 d2 dn vX IV U CT NB SV ST SD RC PL SI RI LN ND SE (by omega) hk hR2
    refine br_c (fun w => ?_) (fun w => ?_)
    · have hk3 : kk = 3 := (nI_eq (b := 3) (by omega) (by decide)).mp w
      exact lq_121 (hJ (by omega)) hL (by omega) hR hx1
    · refine br_c (fun _ => hp1) (fun y => ?_)
      have y' : ¬ nI L ≤ nI kk := y
      rw [nI_leI (by omega) (by omega)] at y'
      exact lq_121 (hJ (by omega)) hL (by omega) hR hx1
end
