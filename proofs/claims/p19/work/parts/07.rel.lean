/-- the first i cells are a's, the others b's -/
def rl_mix (i : Nat) (a b : Nat → Int32) : Nat → Int32 := fun q => if q < i then a q else b q
theorem rl_mix_lt {i q : Nat} {a b : Nat → Int32} (h : q < i) : rl_mix i a b q = a q := if_pos h
theorem rl_mix_ge {i q : Nat} {a b : Nat → Int32} (h : i ≤ q) : rl_mix i a b q = b q := if_neg (by omega)
theorem rl_mix_0 (a b : Nat → Int32) : rl_mix 0 a b = b := funext fun q => rl_mix_ge (by omega)
theorem rl_mix_s {i : Nat} {a b : Nat → Int32} {x : Int32} (h : x = a i) : upd (rl_mix i a b) i x = rl_mix (i + 1) a b := by
  funext q
  by_cases e : q = i
  · rw [e, pk_us, rl_mix_lt (by omega), h]
  · rw [pk_un e]
    by_cases l : q < i
    · rw [rl_mix_lt l, rl_mix_lt (by omega)]
    · rw [rl_mix_ge (by omega), rl_mix_ge (by omega)]
theorem rl_mix_k {i : Nat} {a b : Nat → Int32} (h : a i = b i) : rl_mix i a b = rl_mix (i + 1) a b := by
  funext q
  by_cases e : q = i
  · rw [e, rl_mix_ge (Nat.le_refl i), rl_mix_lt (Nat.lt_succ_self i), h]
  · by_cases l : q < i
    · rw [rl_mix_lt l, rl_mix_lt (by omega)]
    · rw [rl_mix_ge (by omega), rl_mix_ge (by omega)]
theorem rl_uI {F : Nat → Int32} {f : Nat → Nat} (h : ∀ p, F p = nI (f p)) (k v : Nat) : ∀ p, upd F k (nI v) p = nI (rl_u f k v p) := by
  intro p
  by_cases e : p = k
  · rw [e, pk_us, rl_us]
  · rw [pk_un e, rl_un e, h]
/-- the arrays that both sides keep alike, and the component's store, as naturals -/
def rl_A (n c m : Nat) (iv ct : Nat → Nat) (g : Nat → Nat → Nat) (st sd rc si ri : Nat → Nat) (IV CT NB ST SD RC SI RI : Nat → Int32) : Prop :=
  rl_W n c m iv ct g st sd rc si ri ∧ (∀ p, IV p = nI (iv p)) ∧ (∀ p, CT p = nI (ct p)) ∧ (∀ p, p < n → ∀ k, k < ct p → NB (p * 8 + k) = nI (g p k)) ∧
    (∀ s, ST s = nI (st s)) ∧ (∀ s, SD s = nI (sd s)) ∧ (∀ s, RC s = nI (rc s)) ∧ (∀ s, SI s = nI (si s)) ∧ (∀ s, RI s = nI (ri s))
/-- what the tests of a message against a line need -/
def rl_Q (n m : Nat) (sd rc si ri : Nat → Nat) (SD RC SI RI : Nat → Int32) : Prop :=
  n ≤ 4 ∧ m ≤ 16 ∧ (∀ s, sd s < n ∧ rc s < n ∧ si s ≤ 99 ∧ ri s ≤ 99) ∧ (∀ s, SD s = nI (sd s)) ∧ (∀ s, RC s = nI (rc s)) ∧ (∀ s, SI s = nI (si s)) ∧ (∀ s, RI s = nI (ri s))
theorem rl_Q_of {n c m : Nat} {iv ct st sd rc si ri : Nat → Nat} {g : Nat → Nat → Nat} {IV CT NB ST SD RC SI RI : Nat → Int32}
    (h : rl_A n c m iv ct g st sd rc si ri IV CT NB ST SD RC SI RI) : rl_Q n m sd rc si ri SD RC SI RI := by
  obtain ⟨hW, _, _, _, _, h1, h2, h3, h4⟩ := h
  exact ⟨hW.1.1.2, hW.1.2.2.2, fun s => (hW.2.2.1.1 s).2, h1, h2, h3, h4⟩
/-- the reference's table holds what the component stores -/
def rl_Tab (n : Nat) (ct : Nat → Nat) (g : Nat → Nat → Nat) (SV TB TS : Nat → Int32) : Prop :=
  (∀ p, p < n → ∀ i, i < 100 → (¬ TB (p * 100 + i) = 0 ↔ ∃ k, k < ct p ∧ g p k = i)) ∧ (∀ i, n * 100 ≤ i → TB i = 0) ∧
    (∀ p, p < n → ∀ k, k < ct p → SV (p * 8 + k) = TS (p * 100 + g p k))
def rl_R (n c m : Nat) (iv ct : Nat → Nat) (g : Nat → Nat → Nat) (st sd rc si ri : Nat → Nat) (vX vY IV U CT NB SV TB TS ST SD RC SI RI : Nat → Int32) : Prop :=
  rl_A n c m iv ct g st sd rc si ri IV CT NB ST SD RC SI RI ∧ rl_Tab n ct g SV TB TS ∧ (∀ p, U p = 0 ∨ U p = 1) ∧ (∀ p, p < n → ¬ U p = 0 → vX p = vY p)
theorem rl_cn400 {F : Nat → Bool} {n : Nat} (h4 : n ≤ 4) (h : ∀ i, n * 100 ≤ i → ¬ F i = true) : rl_cn F 400 = rl_sum (fun q => rl_cn (fun i => F (q * 100 + i)) 100) n := by
  have e : 400 = n * 100 + (400 - n * 100) := by omega
  have h1 : rl_cn F (n * 100 + (400 - n * 100)) = rl_cn F (n * 100) + rl_cn (fun i => F (n * 100 + i)) (400 - n * 100) := rl_cn_add F (n * 100) _
  have h2 : rl_cn (fun i => F (n * 100 + i)) (400 - n * 100) = 0 := rl_cn_0 _ (fun i _ => h _ (by omega))
  have h3 := rl_cn_blk F n
  rw [← e] at h1
  rw [h1, h2, h3]
  rfl
section
variable {n c m : Nat} {iv ct st sd rc si ri : Nat → Nat} {g : Nat → Nat → Nat}
/-- how many of p the reference counts as stored, and how many it drops -/
theorem rl_cntS (hS : rl_Sto n c iv ct g) {TB : Nat → Int32} {p : Nat} (hp : p < n) (hT : ∀ i, i < 100 → (¬ TB (p * 100 + i) = 0 ↔ ∃ k, k < ct p ∧ g p k = i)) :
    rl_cn (fun i => decide (¬ TB (p * 100 + i) = 0)) 100 = ct p := by
  obtain ⟨_, _, h3, h4, h5⟩ := hS p hp
  refine rl_cn_enum 100 (ct p) (h := g p) h3 (fun k hk => ?_) (fun i hi => ?_)
  · have := h4 k hk; omega
  · rw [decide_eq_true_iff]
    exact hT i hi
theorem rl_cntB (hS : rl_Sto n c iv ct g) {TB : Nat → Int32} {p k : Nat} (hp : p < n) (hk : k < ct p) (hT : ∀ i, i < 100 → (¬ TB (p * 100 + i) = 0 ↔ ∃ k, k < ct p ∧ g p k = i)) :
    rl_cn (fun i => decide (¬ TB (p * 100 + i) = 0)) (g p k) = k := by
  obtain ⟨_, _, h3, h4, h5⟩ := hS p hp
  have h6 := h4 k hk
  refine rl_cn_enum (g p k) k (h := g p) (fun i j hij hj => h3 i j hij (by omega)) (fun j hj => h3 j k hj hk) (fun i hi => ?_)
  rw [decide_eq_true_iff, hT i (by omega)]
  constructor
  · rintro ⟨j, hj, e⟩
    refine ⟨j, ?_, e⟩
    rcases Nat.lt_trichotomy j k with l | l | l
    · exact l
    · rw [l] at e; omega
    · have := h3 k j l hj; omega
  · rintro ⟨j, hj, e⟩
    exact ⟨j, by omega, e⟩
theorem rl_cntD (hS : rl_Sto n c iv ct g) {TB KP : Nat → Int32} {p kept : Nat} {f : Nat → Nat} (hp : p < n) (hT : ∀ i, i < 100 → (¬ TB (p * 100 + i) = 0 ↔ ∃ k, k < ct p ∧ g p k = i))
    (hK : ∀ k, k < ct p → (¬ KP (p * 100 + g p k) = 0 ↔ ∃ j, j < kept ∧ f j = k)) (hf : ∀ j, j < kept → f j < ct p) (hm : ∀ i j, i < j → j < kept → f i < f j) :
    rl_cn (fun i => decide (¬ TB (p * 100 + i) = 0) && decide (KP (p * 100 + i) = 0)) 100 = ct p - kept := by
  have h1 := rl_cntS hS hp hT
  have h2 := rl_cn_split (fun i => decide (¬ TB (p * 100 + i) = 0)) (fun i => decide (¬ KP (p * 100 + i) = 0)) 100
  have h3 : rl_cn (fun i => decide (¬ TB (p * 100 + i) = 0) && decide (¬ KP (p * 100 + i) = 0)) 100 = kept := by
    obtain ⟨_, _, a3, a4, a5⟩ := hS p hp
    refine rl_cn_enum 100 kept (h := fun j => g p (f j)) (fun i j hij hj => a3 _ _ (hm i j hij hj) (hf j hj)) (fun k hk => ?_) (fun i hi => ?_)
    · have := a4 _ (hf k hk); omega
    · rw [Bool.and_eq_true, decide_eq_true_iff, decide_eq_true_iff, hT i hi]
      constructor
      · rintro ⟨⟨k, hk, e⟩, hn⟩
        rw [← e] at hn
        obtain ⟨j, hj, ej⟩ := (hK k hk).mp hn
        exact ⟨j, hj, by rw [ej, e]⟩
      · rintro ⟨j, hj, e⟩
        have e' : g p (f j) = i := e
        refine ⟨⟨f j, hf j hj, e'⟩, ?_⟩
        rw [← e']
        exact (hK _ (hf j hj)).mpr ⟨j, hj, rfl⟩
  have h4 : rl_cn (fun i => decide (¬ TB (p * 100 + i) = 0) && decide (KP (p * 100 + i) = 0)) 100 = rl_cn (fun i => decide (¬ TB (p * 100 + i) = 0) && !decide (¬ KP (p * 100 + i) = 0)) 100 := by
    refine rl_cn_eq 100 (fun i _ => ?_)
    by_cases a : TB (p * 100 + i) = 0 <;> by_cases b : KP (p * 100 + i) = 0 <;> simp [a, b]
  rw [h4]
  omega
end
/-- the same of the reference's side -/
def rl_AY (n c m : Nat) (iv ct : Nat → Nat) (g : Nat → Nat → Nat) (st sd rc si ri : Nat → Nat) (IV TB ST SD RC SI RI : Nat → Int32) : Prop :=
  rl_W n c m iv ct g st sd rc si ri ∧ (∀ p, IV p = nI (iv p)) ∧ (∀ p, p < n → ∀ i, i < 100 → (¬ TB (p * 100 + i) = 0 ↔ ∃ k, k < ct p ∧ g p k = i)) ∧
    (∀ s, ST s = nI (st s)) ∧ (∀ s, SD s = nI (sd s)) ∧ (∀ s, RC s = nI (rc s)) ∧ (∀ s, SI s = nI (si s)) ∧ (∀ s, RI s = nI (ri s))
