def rl_nd (ND : Nat → Int32) (p k : Nat) : Bool := decide (¬ ND (p * 8 + k) = 0)
/-- the flags of an array -/
def rl_nz (SE : Nat → Int32) : Nat → Bool := fun s => decide (¬ SE s = 0)
/-- the slots that are marked are emptied -/
def rl_cl (SE ST : Nat → Int32) : Nat → Int32 := fun s => if SE s = 0 then ST s else 0
theorem rl_SubEx (nd : Nat → Bool) : ∀ k, ∃ f, rl_Sub nd k (rl_cn nd k) f := by
  intro k
  induction k with
  | zero => exact ⟨fun _ => 0, rl_Sub_0 nd _⟩
  | succ k ih =>
    obtain ⟨f, hf⟩ := ih
    by_cases e : nd k = true
    · exact ⟨_, by rw [rl_cn_t e]; exact rl_Sub_t hf e⟩
    · exact ⟨_, by rw [rl_cn_f e]; exact rl_Sub_f hf e⟩
theorem rl_Sub_at {nd : Nat → Bool} {K kept k : Nat} {f : Nat → Nat} (h : rl_Sub nd K kept f) (hk : k < K) (e : nd k = true) : rl_cn nd k < kept ∧ f (rl_cn nd k) = k := by
  obtain ⟨h1, h2, h3, h4⟩ := h
  obtain ⟨j, hj, ej⟩ := h3 k hk e
  have hc : rl_cn nd (f j) = j := by
    refine rl_cn_enum (f j) j (h := f) (fun a b hab hb => h2 a b hab (by omega)) (fun a ha => h2 a j ha hj) (fun i hi => ?_)
    constructor
    · intro hn
      obtain ⟨l, hl, el⟩ := h3 i (by omega) hn
      refine ⟨l, ?_, el⟩
      rcases Nat.lt_trichotomy l j with q | q | q
      · exact q
      · rw [q] at el; omega
      · have := h2 j l q hl; omega
    · rintro ⟨l, hl, el⟩
      rw [← el]
      exact (h1 l (by omega)).2
  rw [ej] at hc
  rw [hc]
  exact ⟨hj, ej⟩
section
variable {n c m : Nat} {iv ct st sd rc si ri : Nat → Nat} {g : Nat → Nat → Nat}
variable {vX IV U CT NB SV ST SD RC PL SI RI LN ND SE : Nat → Int32}
theorem rx_drop_l {post : Int32 → St2 → Prop} {p K : Nat} (hp : p < 4) (hK : K ≤ 8) {f : Nat → Nat} (hf : rl_Sub (rl_nd ND p) K (rl_cn (rl_nd ND p) K) f) {NB0 SV0 : Nat → Int32}
    (hpost : ∀ NB' SV', (∀ j, j < rl_cn (rl_nd ND p) K → NB' (p * 8 + j) = NB0 (p * 8 + f j) ∧ SV' (p * 8 + j) = SV0 (p * 8 + f j)) →
      (∀ q, (q < p * 8 ∨ p * 8 + 8 ≤ q) → NB' q = NB0 q ∧ SV' q = SV0 q) → post (nI (K - rl_cn (rl_nd ND p) K)) (nI n, nI c, nI m, vX, IV, U, upd CT p (nI (rl_cn (rl_nd ND p) K)), NB', SV', ST, SD, RC, PL, SI, RI, LN, ND, SE)) :
    ∀ (fu k : Nat) (NB SV : Nat → Int32), K < fu + k → k ≤ K → (∀ j, j < rl_cn (rl_nd ND p) k → NB (p * 8 + j) = NB0 (p * 8 + f j) ∧ SV (p * 8 + j) = SV0 (p * 8 + f j)) →
      (∀ q, (q < p * 8 ∨ p * 8 + 8 ≤ q) → NB q = NB0 q ∧ SV q = SV0 q) → (∀ j, k ≤ j → NB (p * 8 + j) = NB0 (p * 8 + j) ∧ SV (p * 8 + j) = SV0 (p * 8 + j)) →
      wX_dropUnneeded_18 post (nI p) (nI (p * 8)) (nI K) (nI n) (nI c) (nI m) fu (nI (rl_cn (rl_nd ND p) k)) (nI k) vX IV U CT NB SV ST SD RC PL SI RI LN ND SE := by
  intro fu
  induction fu with
  | zero => intro k NB SV q1 q2; omega
  | succ fu ih =>
    intro k NB SV q1 q2 q3 q4 q5
    have hc := rl_cn_le (rl_nd ND p) k
    by_cases e : K ≤ k
    · have e2 : k = K := by omega
      have hs := pk_sub (a := K) (b := rl_cn (rl_nd ND p) K) (by rw [e2] at hc; exact hc)
      rw [e2] at q3
      simp (disch := omega) only [wX_dropUnneeded_18, e, e2, hs, forall_eq, Nat.le_refl, rl_10, rl_n10, nI_leI, nI_ltI, nI_eq, vp_in_nI, nI_clamp, nI_1, nI_add, rl_lt0, rl_0le, rl_eq0, rl_eq1, rl_eq2, rl_m1, rl_m8, rl_m100, rl_vb0, rl_vb1, true_implies, forall_const, not_true_eq_false, not_false_eq_true, false_implies, and_true, true_and, implies_true, and_self]
      exact hpost NB SV q3 q4
    · have hk : k < K := by omega
      by_cases l : ND (p * 8 + k) = 0
      · have hn : ¬ rl_nd ND p k = true := fun z => (of_decide_eq_true z) l
        have := ih (k + 1) NB SV (by omega) (by omega) (by rw [rl_cn_f hn]; exact q3) q4 (fun j hj => q5 j (by omega))
        rw [rl_cn_f hn] at this
        simp (disch := omega) only [wX_dropUnneeded_18, e, l, forall_eq, Nat.le_refl, rl_10, rl_n10, nI_leI, nI_ltI, nI_eq, vp_in_nI, nI_clamp, nI_1, nI_add, rl_lt0, rl_0le, rl_eq0, rl_eq1, rl_eq2, rl_m1, rl_m8, rl_m100, rl_vb0, rl_vb1, true_implies, forall_const, not_true_eq_false, not_false_eq_true, false_implies, and_true, true_and, implies_true, and_self]
        exact this
      · have hn : rl_nd ND p k = true := decide_eq_true l
        obtain ⟨b1, b2⟩ := rl_Sub_at hf hk hn
        have := ih (k + 1) (upd NB (p * 8 + rl_cn (rl_nd ND p) k) (NB (p * 8 + k))) (upd SV (p * 8 + rl_cn (rl_nd ND p) k) (SV (p * 8 + k))) (by omega) (by omega) (fun j hj => ?_) (fun q hq => ?_) (fun j hj => ?_)
        · rw [rl_cn_t hn] at this
          simp (disch := omega) only [wX_dropUnneeded_18, e, l, forall_eq, Nat.le_refl, rl_10, rl_n10, nI_leI, nI_ltI, nI_eq, vp_in_nI, nI_clamp, nI_1, nI_add, rl_lt0, rl_0le, rl_eq0, rl_eq1, rl_eq2, rl_m1, rl_m8, rl_m100, rl_vb0, rl_vb1, true_implies, forall_const, not_true_eq_false, not_false_eq_true, false_implies, and_true, true_and, implies_true, and_self]
          exact this
        · rw [rl_cn_t hn] at hj
          by_cases qe : j = rl_cn (rl_nd ND p) k
          · rw [qe, pk_us, pk_us, b2]
            exact q5 k (Nat.le_refl _)
          · rw [pk_un (by omega), pk_un (by omega)]
            exact q3 j (by omega)
        · rw [pk_un (by omega), pk_un (by omega)]
          exact q4 q hq
        · rw [pk_un (by omega), pk_un (by omega)]
          exact q5 j (by omega)
theorem rx_drop {post : Int32 → St2 → Prop} {p K : Nat} (hp : p < 4) (hK : K ≤ 8) (hct : CT p = nI K) {f : Nat → Nat} (hf : rl_Sub (rl_nd ND p) K (rl_cn (rl_nd ND p) K) f)
    (hpost : ∀ NB' SV', (∀ j, j < rl_cn (rl_nd ND p) K → NB' (p * 8 + j) = NB (p * 8 + f j) ∧ SV' (p * 8 + j) = SV (p * 8 + f j)) →
      (∀ q, (q < p * 8 ∨ p * 8 + 8 ≤ q) → NB' q = NB q ∧ SV' q = SV q) → post (nI (K - rl_cn (rl_nd ND p) K)) (nI n, nI c, nI m, vX, IV, U, upd CT p (nI (rl_cn (rl_nd ND p) K)), NB', SV', ST, SD, RC, PL, SI, RI, LN, ND, SE)) :
    wpX_dropUnneeded post (nI n, nI c, nI m, vX, IV, U, CT, NB, SV, ST, SD, RC, PL, SI, RI, LN, ND, SE) (nI p) := by
  simp (disch := omega) only [wpX_dropUnneeded, wpX_firstCell, hct, forall_eq, Nat.le_refl, rl_10, rl_n10, nI_leI, nI_ltI, nI_eq, vp_in_nI, nI_clamp, nI_1, nI_add, rl_lt0, rl_0le, rl_eq0, rl_eq1, rl_eq2, rl_m1, rl_m8, rl_m100, rl_vb0, rl_vb1, true_implies, forall_const, not_true_eq_false, not_false_eq_true, false_implies, and_true, true_and, implies_true, and_self]
  exact ⟨K + 1, rx_drop_l hp hK hf hpost (K + 1) 0 NB SV (by omega) (by omega) (fun j hj => absurd hj (by show ¬ j < 0; omega)) (fun q _ => ⟨rfl, rfl⟩) (fun j _ => ⟨rfl, rfl⟩)⟩
theorem rx_recl2_l {post : Int32 → St2 → Prop} {R : Nat} (m16 : m ≤ 16) (hpost : post (nI (100 * R + rl_cn (rl_nz SE) m)) (nI n, nI c, nI m, vX, IV, U, CT, NB, SV, rl_mix m (rl_cl SE ST) ST, SD, RC, PL, SI, RI, LN, ND, SE)) :
    ∀ (fu s : Nat), m < fu + s → s ≤ m → wX_reclaim_34 post (nI R) (nI n) (nI c) (nI m) fu (nI (rl_cn (rl_nz SE) s)) (nI s) vX IV U CT NB SV (rl_mix s (rl_cl SE ST) ST) SD RC PL SI RI LN ND SE := by
  intro fu
  induction fu with
  | zero => intro s q1 q2; omega
  | succ fu ih =>
    intro s q1 q2
    by_cases e : m ≤ s
    · have e2 : s = m := by omega
      have hm : (100 : Int32) * nI R = nI (100 * R) := pk_mul 100 R
      simp (disch := omega) only [wX_reclaim_34, e, hm, forall_eq, Nat.le_refl, rl_10, rl_n10, nI_leI, nI_ltI, nI_eq, vp_in_nI, nI_clamp, nI_1, nI_add, rl_lt0, rl_0le, rl_eq0, rl_eq1, rl_eq2, rl_m1, rl_m8, rl_m100, rl_vb0, rl_vb1, true_implies, forall_const, not_true_eq_false, not_false_eq_true, false_implies, and_true, true_and, implies_true, and_self]
      rw [e2]; exact hpost
    · have := ih (s + 1) (by omega) (by omega)
      by_cases l : SE s = 0
      · have hn : ¬ rl_nz SE s = true := fun z => (of_decide_eq_true z) l
        rw [rl_cn_f hn, ← rl_mix_k (show rl_cl SE ST s = ST s from if_pos l)] at this
        simp (disch := omega) only [wX_reclaim_34, e, l, forall_eq, Nat.le_refl, rl_10, rl_n10, nI_leI, nI_ltI, nI_eq, vp_in_nI, nI_clamp, nI_1, nI_add, rl_lt0, rl_0le, rl_eq0, rl_eq1, rl_eq2, rl_m1, rl_m8, rl_m100, rl_vb0, rl_vb1, true_implies, forall_const, not_true_eq_false, not_false_eq_true, false_implies, and_true, true_and, implies_true, and_self]
        exact this
      · have hn : rl_nz SE s = true := decide_eq_true l
        rw [rl_cn_t hn, ← rl_mix_s (show (0 : Int32) = rl_cl SE ST s from (if_neg l).symm)] at this
        simp (disch := omega) only [wX_reclaim_34, e, l, forall_eq, Nat.le_refl, rl_10, rl_n10, nI_leI, nI_ltI, nI_eq, vp_in_nI, nI_clamp, nI_1, nI_add, rl_lt0, rl_0le, rl_eq0, rl_eq1, rl_eq2, rl_m1, rl_m8, rl_m100, rl_vb0, rl_vb1, true_implies, forall_const, not_true_eq_false, not_false_eq_true, false_implies, and_true, true_and, implies_true, and_self]
        exact this
theorem rx_recl1_l {post : Int32 → St2 → Prop} (n4 : n ≤ 4) (m16 : m ≤ 16) (h8 : ∀ p, p < n → ct p ≤ 8) {CT0 NB0 SV0 : Nat → Int32} (hCT : ∀ p, CT0 p = nI (ct p)) {f : Nat → Nat → Nat}
    (hf : ∀ p, p < n → rl_Sub (rl_nd ND p) (ct p) (rl_cn (rl_nd ND p) (ct p)) (f p))
    (hpost : ∀ NB' SV', (∀ p, p < n → ∀ j, j < rl_cn (rl_nd ND p) (ct p) → NB' (p * 8 + j) = NB0 (p * 8 + f p j) ∧ SV' (p * 8 + j) = SV0 (p * 8 + f p j)) →
      post (nI (100 * rl_sum (fun q => ct q - rl_cn (rl_nd ND q) (ct q)) n + rl_cn (rl_nz SE) m))
        (nI n, nI c, nI m, vX, IV, U, rl_mix n (fun q => nI (rl_cn (rl_nd ND q) (ct q))) CT0, NB', SV', rl_mix m (rl_cl SE ST) ST, SD, RC, PL, SI, RI, LN, ND, SE)) :
    ∀ (fu i : Nat) (NB SV : Nat → Int32), n < fu + i → i ≤ n →
      (∀ p, p < i → ∀ j, j < rl_cn (rl_nd ND p) (ct p) → NB (p * 8 + j) = NB0 (p * 8 + f p j) ∧ SV (p * 8 + j) = SV0 (p * 8 + f p j)) → (∀ q, i * 8 ≤ q → NB q = NB0 q ∧ SV q = SV0 q) →
      wX_reclaim_8 post fu (nI (rl_sum (fun q => ct q - rl_cn (rl_nd ND q) (ct q)) i)) (nI i) (nI n) (nI c) (nI m) vX IV U (rl_mix i (fun q => nI (rl_cn (rl_nd ND q) (ct q))) CT0) NB SV ST SD RC PL SI RI LN ND SE := by
  intro fu
  induction fu with
  | zero => intro i NB SV q1 q2; omega
  | succ fu ih =>
    intro i NB SV q1 q2 q3 q4
    by_cases e : n ≤ i
    · have e2 : i = n := by omega
      simp (disch := omega) only [wX_reclaim_8, e, forall_eq, Nat.le_refl, rl_10, rl_n10, nI_leI, nI_ltI, nI_eq, vp_in_nI, nI_clamp, nI_1, nI_add, rl_lt0, rl_0le, rl_eq0, rl_eq1, rl_eq2, rl_m1, rl_m8, rl_m100, rl_vb0, rl_vb1, true_implies, forall_const, not_true_eq_false, not_false_eq_true, false_implies, and_true, true_and, implies_true, and_self]
      rw [e2] at q3 ⊢
      have := rx_recl2_l (CT := rl_mix n (fun q => nI (rl_cn (rl_nd ND q) (ct q))) CT0) (NB := NB) (SV := SV) m16 (hpost NB SV q3) (m + 1) 0 (by omega) (by omega)
      rw [rl_mix_0] at this
      exact ⟨_, this⟩
    · have hi : i < n := by omega
      have hk := rl_cn_le (rl_nd ND i) (ct i)
      have h8i := h8 i hi
      simp (disch := omega) only [wX_reclaim_8, e, forall_eq, Nat.le_refl, rl_10, rl_n10, nI_leI, nI_ltI, nI_eq, vp_in_nI, nI_clamp, nI_1, nI_add, rl_lt0, rl_0le, rl_eq0, rl_eq1, rl_eq2, rl_m1, rl_m8, rl_m100, rl_vb0, rl_vb1, true_implies, forall_const, not_true_eq_false, not_false_eq_true, false_implies, and_true, true_and, implies_true, and_self]
      refine rx_drop (K := ct i) (f := f i) (by omega) h8i (by rw [rl_mix_ge (by omega)]; exact hCT i) (hf i hi) (fun NB1 SV1 r1 r2 => ?_)
      have := ih (i + 1) NB1 SV1 (by omega) (by omega) (fun p hp j hj => ?_) (fun q hq => ?_)
      · rw [← rl_mix_s (i := i) (a := fun q => nI (rl_cn (rl_nd ND q) (ct q))) rfl] at this
        try simp (disch := omega) only [forall_eq, Nat.le_refl, rl_10, rl_n10, nI_leI, nI_ltI, nI_eq, vp_in_nI, nI_clamp, nI_1, nI_add, rl_lt0, rl_0le, rl_eq0, rl_eq1, rl_eq2, rl_m1, rl_m8, rl_m100, rl_vb0, rl_vb1, true_implies, forall_const, not_true_eq_false, not_false_eq_true, false_implies, and_true, true_and, implies_true, and_self]
        exact this
      · by_cases pe : p = i
        · rw [pe] at hj ⊢
          obtain ⟨a1, a2⟩ := r1 j hj
          have hfj := ((hf i hi).1 j hj).1
          rw [a1, a2]
          exact q4 _ (by omega)
        · have hkp := rl_cn_le (rl_nd ND p) (ct p)
          have h8p := h8 p (by omega)
          obtain ⟨a1, a2⟩ := r2 (p * 8 + j) (by omega)
          rw [a1, a2]
          exact q3 p (by omega) j hj
      · obtain ⟨a1, a2⟩ := r2 q (by omega)
        rw [a1, a2]
        exact q4 q (by omega)
theorem rx_reclaim (hA : rl_A n c m iv ct g st sd rc si ri IV CT NB ST SD RC SI RI) {post : Int32 → St2 → Prop} {Ls : Int32 → Nat → Nat} (hL : ∀ T, rl_IsL n (rl_tp ct T) (rl_C m iv ct g st sd rc si ri) (Ls T))
    (hpost : ∀ LN' ND' SE' NB' SV' (f : Nat → Nat → Nat), (∀ p, p < n → ∀ k, k < ct p → (¬ ND' (p * 8 + k) = 0 ↔ rl_Nd (rl_or (rl_dn U) n) Ls (2 ^ n) p k)) →
      (∀ s, s < m → (¬ SE' s = 0 ↔ rl_Se (rl_or (rl_dn U) n) (fun T p => rl_G ct g iv p (Ls T p)) st rc ri (2 ^ n) s)) →
      (∀ p, p < n → rl_Sub (rl_nd ND' p) (ct p) (rl_cn (rl_nd ND' p) (ct p)) (f p)) →
      (∀ p, p < n → ∀ j, j < rl_cn (rl_nd ND' p) (ct p) → NB' (p * 8 + j) = NB (p * 8 + f p j) ∧ SV' (p * 8 + j) = SV (p * 8 + f p j)) →
      post (nI (100 * rl_sum (fun q => ct q - rl_cn (rl_nd ND' q) (ct q)) n + rl_cn (rl_nz SE') m))
        (nI n, nI c, nI m, vX, IV, U, rl_mix n (fun q => nI (rl_cn (rl_nd ND' q) (ct q))) CT, NB', SV', rl_mix m (rl_cl SE' ST) ST, SD, RC, PL, SI, RI, LN', ND', SE')) :
    wpX_reclaim post (nI n, nI c, nI m, vX, IV, U, CT, NB, SV, ST, SD, RC, PL, SI, RI, LN, ND, SE) := by
  have hA' := hA
  obtain ⟨hW, hIV, hCT, hNB, hST, hSD, hRC, hSI, hRI⟩ := hA'
  have hW' := hW
  obtain ⟨⟨⟨n2, n4⟩, ⟨c3, c8⟩, ⟨m4, m16⟩⟩, hS, hM, hB⟩ := hW'
  simp only [wpX_reclaim]
  refine rx_mns hA hL (fun LN1 ND1 SE1 r1 r2 => ?_)
  try dsimp only
  have hf : ∀ p, ∃ f, rl_Sub (rl_nd ND1 p) (ct p) (rl_cn (rl_nd ND1 p) (ct p)) f := fun p => rl_SubEx _ _
  obtain ⟨f, hf⟩ := Classical.axiomOfChoice hf
  have := rx_recl1_l (ND := ND1) (SE := SE1) (LN := LN1) (ST := ST) n4 m16 (fun p hp => Nat.le_trans (hS p hp).2.1 c8) hCT (f := f) (fun p _ => hf p)
    (fun NB' SV' r3 => hpost LN1 ND1 SE1 NB' SV' f r1 r2 (fun p _ => hf p) r3) (n + 1) 0 NB SV (by omega) (by omega) (fun p hp => absurd hp (by omega)) (fun q _ => ⟨rfl, rfl⟩)
  rw [rl_mix_0] at this
  exact ⟨_, this⟩
end
