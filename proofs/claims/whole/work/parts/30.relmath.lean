theorem rl_mn {n p : Nat} {f : Nat → Bool} {a b : Nat → Int32} : rl_mix n (rl_nf f a b) b p = if p < n ∧ f p = true then a p else b p := by
  by_cases h : p < n
  · rw [rl_mix_lt h]
    by_cases e : f p = true
    · rw [if_pos ⟨h, e⟩]; exact if_pos e
    · rw [if_neg (fun z => e z.2)]; exact if_neg e
  · rw [rl_mix_ge (by omega), if_neg (fun z => h z.1)]
theorem rl_mix_eq {n : Nat} {a a' b : Nat → Int32} (h : ∀ q, q < n → a q = a' q) : rl_mix n a b = rl_mix n a' b := by
  funext q
  by_cases e : q < n
  · rw [rl_mix_lt e, rl_mix_lt e, h q e]
  · rw [rl_mix_ge (by omega), rl_mix_ge (by omega)]
section
variable {n c m : Nat} {iv ct st sd rc si ri : Nat → Nat} {g : Nat → Nat → Nat}
variable {vX vY IV U CT NB SV TB TS ST SD RC SI RI : Nat → Int32}
theorem rl_R_recover (hR : rl_R n c m iv ct g st sd rc si ri vX vY IV U CT NB SV TB TS ST SD RC SI RI) {L : Nat → Nat}
    (hL : rl_IsL n (rl_tp ct (rl_or (rl_dn U) n)) (rl_C m iv ct g st sd rc si ri) L) :
    rl_R n c m (fun p => if p < n ∧ L p < ct p then g p (L p) else iv p) (fun p => if p < n ∧ L p < ct p then L p + 1 else ct p) g
      (fun s => if s < m then rl_rb st sd rc si ri (fun p => rl_G ct g iv p (L p)) s else st s) sd rc si ri
      (rl_mix n (rl_nf (rl_rl ct L) (fun p => SV (p * 8 + L p)) vX) vX) (rl_mix n (rl_nf (rl_rl ct L) (fun p => TS (p * 100 + g p (L p))) vY) vY)
      (rl_mix n (rl_nf (rl_rl ct L) (fun p => nI (g p (L p))) IV) IV) (rl_mix n (fun _ => 1) U) (rl_mix n (rl_nf (rl_rl ct L) (fun p => nI (L p + 1)) CT) CT) NB SV
      (rl_mix (n * 100) (rl_tr (rl_rl ct L) (fun p => rl_G ct g iv p (L p)) TB) TB) TS
      (rl_mix m (fun s => nI (rl_rb st sd rc si ri (fun p => rl_G ct g iv p (L p)) s)) ST) SD RC SI RI := by
  obtain ⟨hA, ⟨hT1, hT2, hT3⟩, hU, hV⟩ := hR
  have hA' := hA
  obtain ⟨hW, hIV, hCT, hNB, hST, hSD, hRC, hSI, hRI⟩ := hA'
  have hW' := hW
  obtain ⟨⟨⟨n2, n4⟩, ⟨c3, c8⟩, ⟨m4, m16⟩⟩, hS, hM, hB⟩ := hW'
  have hrl : ∀ p, rl_rl ct L p = true ↔ L p < ct p := fun p => decide_eq_true_iff
  have hrb2 : ∀ s, rl_rb st sd rc si ri (fun p => rl_G ct g iv p (L p)) s = 2 → st s = 2 ∧ ri s < rl_G ct g iv (rc s) (L (rc s)) := by
    intro s h
    unfold rl_rb at h
    by_cases z : st s = 0
    · rw [if_pos z] at h; omega
    · rw [if_neg z] at h
      by_cases a : si s < rl_G ct g iv (sd s) (L (sd s))
      · rw [if_pos a] at h
        by_cases b : st s = 2 ∧ ¬ ri s < rl_G ct g iv (rc s) (L (rc s))
        · rw [if_pos b] at h; omega
        · rw [if_neg b] at h
          refine ⟨h, ?_⟩
          apply Classical.byContradiction
          intro w
          exact b ⟨h, w⟩
      · rw [if_neg a] at h; omega
  have hrb1 : ∀ s, rl_rb st sd rc si ri (fun p => rl_G ct g iv p (L p)) s ≤ 2 := by
    intro s
    have := (hM.1 s).1
    unfold rl_rb
    split
    · omega
    · split
      · split <;> omega
      · omega
  have hW2 := rl_W_recover hW hL (iv' := fun p => if p < n ∧ L p < ct p then g p (L p) else iv p) (ct' := fun p => if p < n ∧ L p < ct p then L p + 1 else ct p)
    (st' := fun s => if s < m then rl_rb st sd rc si ri (fun p => rl_G ct g iv p (L p)) s else st s)
    (fun p hp => ⟨fun h => ⟨if_pos ⟨hp, h⟩, if_pos ⟨hp, h⟩⟩, fun h => ⟨if_neg (fun z => h z.2), if_neg (fun z => h z.2)⟩⟩)
    (fun s => by
      have := (hM.1 s).1
      have := hrb1 s
      show (if s < m then rl_rb st sd rc si ri (fun p => rl_G ct g iv p (L p)) s else st s) ≤ 2
      split <;> omega)
    (fun s hs h => by
      have h' : (if s < m then rl_rb st sd rc si ri (fun p => rl_G ct g iv p (L p)) s else st s) = 2 := h
      rw [if_pos hs] at h'
      exact hrb2 s h')
  refine ⟨⟨hW2, fun p => ?_, fun p => ?_, fun p hp k hk => ?_, fun s => ?_, hSD, hRC, hSI, hRI⟩, ⟨fun p hp i hi => ?_, fun i hi => ?_, fun p hp k hk => ?_⟩, fun p => ?_, fun p hp hu => ?_⟩
  · rw [rl_mn]
    by_cases h : p < n ∧ L p < ct p
    · rw [if_pos ⟨h.1, (hrl p).mpr h.2⟩]
      show _ = nI (if p < n ∧ L p < ct p then g p (L p) else iv p)
      rw [if_pos h]
    · rw [if_neg (fun z => h ⟨z.1, (hrl p).mp z.2⟩)]
      show _ = nI (if p < n ∧ L p < ct p then g p (L p) else iv p)
      rw [if_neg h]
      exact hIV p
  · rw [rl_mn]
    by_cases h : p < n ∧ L p < ct p
    · rw [if_pos ⟨h.1, (hrl p).mpr h.2⟩]
      show _ = nI (if p < n ∧ L p < ct p then L p + 1 else ct p)
      rw [if_pos h]
    · rw [if_neg (fun z => h ⟨z.1, (hrl p).mp z.2⟩)]
      show _ = nI (if p < n ∧ L p < ct p then L p + 1 else ct p)
      rw [if_neg h]
      exact hCT p
  · refine hNB p hp k ?_
    have hk' : k < if p < n ∧ L p < ct p then L p + 1 else ct p := hk
    by_cases h : p < n ∧ L p < ct p
    · rw [if_pos h] at hk'; omega
    · rw [if_neg h] at hk'; exact hk'
  · show _ = nI (if s < m then rl_rb st sd rc si ri (fun p => rl_G ct g iv p (L p)) s else st s)
    by_cases h : s < m
    · rw [rl_mix_lt h, if_pos h]
    · rw [rl_mix_ge (by omega), if_neg h]; exact hST s
  · show ¬ _ = 0 ↔ ∃ k, k < (if p < n ∧ L p < ct p then L p + 1 else ct p) ∧ g p k = i
    obtain ⟨s1, s2, s3, s4, s5⟩ := hS p hp
    have d1 : (p * 100 + i) % 100 = i := by omega
    have d2 : (p * 100 + i) / 100 = p := by omega
    rw [rl_mix_lt (by omega)]
    unfold rl_tr
    rw [d1, d2]
    by_cases h : L p < ct p
    · rw [if_pos (c := p < n ∧ L p < ct p) ⟨hp, h⟩]
      by_cases l : rl_G ct g iv p (L p) < i
      · rw [if_pos ⟨(hrl p).mpr h, l⟩]
        rw [rl_G_in h] at l
        refine ⟨fun z => absurd rfl z, fun ⟨k, hk, ek⟩ => ?_⟩
        exfalso
        by_cases q : k = L p
        · rw [q] at ek; omega
        · have := s3 k (L p) (by omega) h; omega
      · rw [if_neg (fun z => l z.2), hT1 p hp i hi]
        rw [rl_G_in h] at l
        constructor
        · rintro ⟨k, hk, ek⟩
          refine ⟨k, ?_, ek⟩
          by_cases q : L p < k
          · have := s3 _ _ q hk; omega
          · omega
        · rintro ⟨k, hk, ek⟩
          exact ⟨k, by omega, ek⟩
    · rw [if_neg (c := p < n ∧ L p < ct p) (fun z => h z.2), if_neg (fun z => h ((hrl p).mp z.1)), hT1 p hp i hi]
  · rw [rl_mix_ge hi]; exact hT2 i hi
  · refine hT3 p hp k ?_
    have hk' : k < if p < n ∧ L p < ct p then L p + 1 else ct p := hk
    by_cases h : p < n ∧ L p < ct p
    · rw [if_pos h] at hk'; omega
    · rw [if_neg h] at hk'; exact hk'
  · by_cases h : p < n
    · rw [rl_mix_lt h]; exact Or.inr rfl
    · rw [rl_mix_ge (by omega)]; exact hU p
  · rw [rl_mn, rl_mn]
    by_cases h : L p < ct p
    · rw [if_pos ⟨hp, (hrl p).mpr h⟩, if_pos ⟨hp, (hrl p).mpr h⟩]
      exact hT3 p hp _ h
    · rw [if_neg (fun z => h ((hrl p).mp z.2)), if_neg (fun z => h ((hrl p).mp z.2))]
      refine hV p hp (fun z => ?_)
      have hb := rl_bit (rl_dn U) n2 n4 hp (decide_eq_true z)
      have ht : rl_tp ct (rl_or (rl_dn U) n) p = ct p - 1 := if_neg hb
      have h1 := hL.1 p hp
      have h2 := (hS p hp).1
      omega
theorem rl_R_reclaim (hR : rl_R n c m iv ct g st sd rc si ri vX vY IV U CT NB SV TB TS ST SD RC SI RI) {Ls : Int32 → Nat → Nat}
    (hL : ∀ T, rl_IsL n (rl_tp ct T) (rl_C m iv ct g st sd rc si ri) (Ls T)) {ND SE NB' SV' KP SL : Nat → Int32} {f : Nat → Nat → Nat}
    (r1 : ∀ p, p < n → ∀ k, k < ct p → (¬ ND (p * 8 + k) = 0 ↔ rl_Nd (rl_or (rl_dn U) n) Ls (2 ^ n) p k))
    (r2 : ∀ s, s < m → (¬ SE s = 0 ↔ rl_Se (rl_or (rl_dn U) n) (fun T p => rl_G ct g iv p (Ls T p)) st rc ri (2 ^ n) s))
    (r3 : ∀ p, p < n → rl_Sub (rl_nd ND p) (ct p) (rl_cn (rl_nd ND p) (ct p)) (f p))
    (r4 : ∀ p, p < n → ∀ j, j < rl_cn (rl_nd ND p) (ct p) → NB' (p * 8 + j) = NB (p * 8 + f p j) ∧ SV' (p * 8 + j) = SV (p * 8 + f p j))
    (r5 : ∀ p, p < n → ∀ k, k < ct p → (¬ KP (p * 100 + g p k) = 0 ↔ rl_Nd (rl_or (rl_dn U) n) Ls (2 ^ n) p k))
    (r6 : ∀ s, s < m → (¬ SL s = 0 ↔ rl_Se (rl_or (rl_dn U) n) (fun T p => rl_G ct g iv p (Ls T p)) st rc ri (2 ^ n) s)) :
    rl_mix m (rl_cl SL ST) ST = rl_mix m (rl_cl SE ST) ST ∧
    100 * rl_cn (rl_dr KP TB) 400 + rl_cn (rl_nz SL) m = 100 * rl_sum (fun q => ct q - rl_cn (rl_nd ND q) (ct q)) n + rl_cn (rl_nz SE) m ∧
    rl_R n c m iv (fun p => if p < n then rl_cn (rl_nd ND p) (ct p) else ct p) (fun p j => g p (f p j)) (fun s => if s < m ∧ ¬ SE s = 0 then 0 else st s) sd rc si ri vX vY IV U
      (rl_mix n (fun q => nI (rl_cn (rl_nd ND q) (ct q))) CT) NB' SV' (rl_mix 400 (rl_tb KP TB) TB) TS (rl_mix m (rl_cl SE ST) ST) SD RC SI RI := by
  obtain ⟨hA, ⟨hT1, hT2, hT3⟩, hU, hV⟩ := hR
  have hA' := hA
  obtain ⟨hW, hIV, hCT, hNB, hST, hSD, hRC, hSI, hRI⟩ := hA'
  have hW' := hW
  obtain ⟨⟨⟨n2, n4⟩, ⟨c3, c8⟩, ⟨m4, m16⟩⟩, hS, hM, hB⟩ := hW'
  have h16 := rl_16 n4
  have hnd : ∀ p k, rl_nd ND p k = true ↔ ¬ ND (p * 8 + k) = 0 := fun p k => decide_eq_true_iff
  have hss : ∀ s, s < m → (SE s = 0 ↔ SL s = 0) := by
    intro s hs
    have := (r2 s hs).trans (r6 s hs).symm
    by_cases a : SE s = 0 <;> by_cases b : SL s = 0
    · exact ⟨fun _ => b, fun _ => a⟩
    · exact absurd a (this.mpr b)
    · exact absurd b (this.mp a)
    · exact ⟨fun z => absurd z a, fun z => absurd z b⟩
  have hKN : ∀ p, p < n → ∀ k, k < ct p → (¬ KP (p * 100 + g p k) = 0 ↔ ∃ j, j < rl_cn (rl_nd ND p) (ct p) ∧ f p j = k) := by
    intro p hp k hk
    rw [r5 p hp k hk, ← r1 p hp k hk, ← hnd]
    constructor
    · intro h; exact (r3 p hp).2.2.1 k hk h
    · rintro ⟨j, hj, ej⟩
      rw [← ej]
      exact ((r3 p hp).1 j hj).2
  refine ⟨?_, ?_, ?_⟩
  · refine rl_mix_eq (fun s hs => ?_)
    unfold rl_cl
    by_cases a : SE s = 0
    · rw [if_pos a, if_pos ((hss s hs).mp a)]
    · rw [if_neg a, if_neg (fun z => a ((hss s hs).mpr z))]
  · have e1 : rl_cn (rl_nz SL) m = rl_cn (rl_nz SE) m := by
      refine rl_cn_eq m (fun s hs => ?_)
      unfold rl_nz
      rw [decide_eq_true_iff, decide_eq_true_iff, hss s hs]
    have e2 : rl_cn (rl_dr KP TB) 400 = rl_sum (fun q => ct q - rl_cn (rl_nd ND q) (ct q)) n := by
      rw [rl_cn400 n4 (fun i hi z => ?_)]
      · refine rl_sum_eq n (fun p hp => ?_)
        exact rl_cntD hS hp (hT1 p hp) (hKN p hp) (fun j hj => ((r3 p hp).1 j hj).1) (r3 p hp).2.1
      · have := hT2 i hi
        unfold rl_dr at z
        simp [this] at z
    rw [e1, e2]
  · have hall : ∀ p, p < n → Ls (nI (2 ^ n - 1)) p < ct p := by
      intro p hp
      have h1 := (hL (nI (2 ^ n - 1))).1 p hp
      have ht : rl_tp ct (nI (2 ^ n - 1)) p = ct p - 1 := if_neg (rl_allp n2 n4 hp)
      have h2 := (hS p hp).1
      omega
    have hpos : 0 < 2 ^ n := Nat.pow_pos (by omega)
    have hW2 := rl_W_reclaim hW (hL (nI (2 ^ n - 1))) hall (ct' := fun p => if p < n then rl_cn (rl_nd ND p) (ct p) else ct p) (g' := fun p j => g p (f p j)) (f := f)
      (fun p hp => by show (if p < n then rl_cn (rl_nd ND p) (ct p) else ct p) ≤ ct p; rw [if_pos hp]; exact rl_cn_le _ _)
      (fun p hp j hj => by
        have hj' : j < if p < n then rl_cn (rl_nd ND p) (ct p) else ct p := hj
        rw [if_pos hp] at hj'
        exact ⟨((r3 p hp).1 j hj').1, rfl⟩)
      (fun p hp i j hij hj => by
        have hj' : j < if p < n then rl_cn (rl_nd ND p) (ct p) else ct p := hj
        rw [if_pos hp] at hj'
        exact (r3 p hp).2.1 i j hij hj')
      (fun p hp => by
        show ∃ j, j < (if p < n then rl_cn (rl_nd ND p) (ct p) else ct p) ∧ f p j = Ls (nI (2 ^ n - 1)) p
        rw [if_pos hp]
        refine (r3 p hp).2.2.1 _ (hall p hp) ((hnd p _).mpr ((r1 p hp _ (hall p hp)).mpr ?_))
        exact ⟨2 ^ n - 1, by omega, rl_all (rl_dn U) n2 n4, rfl⟩)
    have hW3 := rl_W_drop hW2 (st' := fun s => if s < m ∧ ¬ SE s = 0 then 0 else st s) (fun s => by
      show (if s < m ∧ ¬ SE s = 0 then 0 else st s) = st s ∨ (if s < m ∧ ¬ SE s = 0 then 0 else st s) = 0
      split
      · exact Or.inr rfl
      · exact Or.inl rfl)
    refine ⟨⟨hW3, hIV, fun p => ?_, fun p hp k hk => ?_, fun s => ?_, hSD, hRC, hSI, hRI⟩, ⟨fun p hp i hi => ?_, fun i hi => ?_, fun p hp k hk => ?_⟩, hU, hV⟩
    · show _ = nI (if p < n then rl_cn (rl_nd ND p) (ct p) else ct p)
      by_cases h : p < n
      · rw [rl_mix_lt h, if_pos h]
      · rw [rl_mix_ge (by omega), if_neg h]; exact hCT p
    · have hk' : k < if p < n then rl_cn (rl_nd ND p) (ct p) else ct p := hk
      rw [if_pos hp] at hk'
      rw [(r4 p hp k hk').1]
      exact hNB p hp _ ((r3 p hp).1 k hk').1
    · show _ = nI (if s < m ∧ ¬ SE s = 0 then 0 else st s)
      by_cases h : s < m
      · rw [rl_mix_lt h]
        unfold rl_cl
        by_cases a : SE s = 0
        · rw [if_pos a, if_neg (fun z => z.2 a)]; exact hST s
        · rw [if_neg a, if_pos ⟨h, a⟩]; rfl
      · rw [rl_mix_ge (by omega), if_neg (fun z => h z.1)]; exact hST s
    · show ¬ _ = 0 ↔ ∃ k, k < (if p < n then rl_cn (rl_nd ND p) (ct p) else ct p) ∧ g p (f p k) = i
      rw [if_pos hp, rl_mix_lt (by omega)]
      unfold rl_tb
      by_cases a : KP (p * 100 + i) = 0
      · rw [if_pos a]
        refine ⟨fun z => absurd rfl z, fun ⟨j, hj, ej⟩ => ?_⟩
        exfalso
        have hfj := ((r3 p hp).1 j hj).1
        have := (hKN p hp _ hfj).mpr ⟨j, hj, rfl⟩
        rw [ej] at this
        exact this a
      · rw [if_neg a, hT1 p hp i hi]
        constructor
        · rintro ⟨k, hk, ek⟩
          rw [← ek] at a
          obtain ⟨j, hj, ej⟩ := (hKN p hp k hk).mp a
          exact ⟨j, hj, by rw [ej, ek]⟩
        · rintro ⟨j, hj, ej⟩
          exact ⟨f p j, ((r3 p hp).1 j hj).1, ej⟩
    · by_cases h : i < 400
      · rw [rl_mix_lt h]
        unfold rl_tb
        rw [hT2 i hi]
        split <;> rfl
      · rw [rl_mix_ge (by omega)]; exact hT2 i hi
    · have hk' : k < if p < n then rl_cn (rl_nd ND p) (ct p) else ct p := hk
      rw [if_pos hp] at hk'
      rw [(r4 p hp k hk').2]
      exact hT3 p hp _ ((r3 p hp).1 k hk').1
end
