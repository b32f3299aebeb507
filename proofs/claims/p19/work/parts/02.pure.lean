/-- pointwise at most, below n -/
def rl_le (n : Nat) (a b : Nat → Nat) : Prop := ∀ p, p < n → a p ≤ b p
def rl_sum (a : Nat → Nat) : Nat → Nat
  | 0 => 0
  | n + 1 => rl_sum a n + a n
theorem rl_sum_le {a b : Nat → Nat} : ∀ n, rl_le n a b → rl_sum a n ≤ rl_sum b n := by
  intro n
  induction n with
  | zero => intro _; exact Nat.le_refl _
  | succ n ih =>
    intro h
    have h1 := ih (fun p hp => h p (by omega))
    have h2 := h n (by omega)
    show rl_sum a n + a n ≤ rl_sum b n + b n
    omega
theorem rl_sum_lt {a b : Nat → Nat} : ∀ n, rl_le n a b → ∀ p, p < n → a p < b p → rl_sum a n < rl_sum b n := by
  intro n
  induction n with
  | zero => intro _ p hp; omega
  | succ n ih =>
    intro h p hp hlt
    have h2 := h n (by omega)
    show rl_sum a n + a n < rl_sum b n + b n
    by_cases e : p = n
    · rw [e] at hlt
      have h1 := rl_sum_le (a := a) (b := b) n (fun q hq => h q (by omega))
      omega
    · have h1 := ih (fun q hq => h q (by omega)) p (by omega) hlt
      omega
theorem rl_sum_eq {a b : Nat → Nat} : ∀ n, (∀ p, p < n → a p = b p) → rl_sum a n = rl_sum b n := by
  intro n h
  have h1 := rl_sum_le (a := a) (b := b) n (fun p hp => by rw [h p hp]; exact Nat.le_refl _)
  have h2 := rl_sum_le (a := b) (b := a) n (fun p hp => by rw [h p hp]; exact Nat.le_refl _)
  omega
theorem rl_sum_c (c : Nat) : ∀ n, rl_sum (fun _ => c) n = n * c := by
  intro n
  induction n with
  | zero => show 0 = 0 * c; rw [Nat.zero_mul]
  | succ n ih =>
    show rl_sum (fun _ => c) n + c = (n + 1) * c
    rw [ih, Nat.succ_mul]
def rl_max (a b : Nat → Nat) : Nat → Nat := fun p => if a p ≤ b p then b p else a p
theorem rl_max_l (a b : Nat → Nat) (p : Nat) : a p ≤ rl_max a b p := by
  show a p ≤ if a p ≤ b p then b p else a p
  split <;> omega
theorem rl_max_r (a b : Nat → Nat) (p : Nat) : b p ≤ rl_max a b p := by
  show b p ≤ if a p ≤ b p then b p else a p
  split <;> omega
theorem rl_max_or (a b : Nat → Nat) (p : Nat) : rl_max a b p = a p ∨ rl_max a b p = b p := by
  show (if a p ≤ b p then b p else a p) = a p ∨ (if a p ≤ b p then b p else a p) = b p
  split
  · exact Or.inr rfl
  · exact Or.inl rfl
/-- the greatest choice below t that C takes -/
def rl_IsL (n : Nat) (t : Nat → Nat) (C : (Nat → Nat) → Prop) (L : Nat → Nat) : Prop :=
  rl_le n L t ∧ C L ∧ ∀ b, rl_le n b t → C b → rl_le n b L
theorem rl_greatest {n : Nat} {t : Nat → Nat} {C : (Nat → Nat) → Prop} (hex : ∃ b, rl_le n b t ∧ C b)
    (hmax : ∀ a b, rl_le n a t → rl_le n b t → C a → C b → C (rl_max a b)) : ∃ L, rl_IsL n t C L := by
  obtain ⟨b0, hb0, cb0⟩ := hex
  have hd : ∃ d, ∃ b, rl_le n b t ∧ C b ∧ rl_sum b n + d = rl_sum t n :=
    ⟨rl_sum t n - rl_sum b0 n, b0, hb0, cb0, by have := rl_sum_le n hb0; omega⟩
  obtain ⟨d, ⟨L, hL, cL, eL⟩, hmin⟩ := pk_least (fun d => ∃ b, rl_le n b t ∧ C b ∧ rl_sum b n + d = rl_sum t n) hd
  refine ⟨L, hL, cL, fun b hb cb p hp => ?_⟩
  apply Classical.byContradiction
  intro hn
  have hM : rl_le n (rl_max b L) t := by
    intro q hq
    rcases rl_max_or b L q with e | e
    · rw [e]; exact hb q hq
    · rw [e]; exact hL q hq
  have cM := hmax b L hb hL cb cL
  have lt : rl_sum L n < rl_sum (rl_max b L) n :=
    rl_sum_lt n (fun q _ => rl_max_r b L q) p hp (by have := rl_max_l b L p; omega)
  have le := rl_sum_le n hM
  exact hmin (rl_sum t n - rl_sum (rl_max b L) n) (by omega) ⟨rl_max b L, hM, cM, by omega⟩
theorem rl_IsL_uq {n : Nat} {t : Nat → Nat} {C : (Nat → Nat) → Prop} {L K : Nat → Nat} (h : rl_IsL n t C L)
    (hK : rl_le n K t) (cK : C K) (hLK : rl_le n L K) : ∀ p, p < n → K p = L p := by
  intro p hp
  have h1 := h.2.2 K hK cK p hp
  have h2 := hLK p hp
  omega
/-- the number that the digits of κ make, each below its own top -/
def rl_cd (t κ : Nat → Nat) : Nat → Nat
  | 0 => 0
  | n + 1 => rl_cd t κ n * (t n + 1) + κ n
theorem rl_cd_mono {t a b : Nat → Nat} : ∀ n, rl_le n a b → rl_cd t a n ≤ rl_cd t b n := by
  intro n
  induction n with
  | zero => intro _; exact Nat.le_refl _
  | succ n ih =>
    intro h
    exact Nat.add_le_add (Nat.mul_le_mul_right _ (ih (fun p hp => h p (by omega)))) (h n (by omega))
theorem rl_cd_eq {t a b : Nat → Nat} : ∀ n, (∀ p, p < n → a p = b p) → rl_cd t a n = rl_cd t b n := by
  intro n h
  exact Nat.le_antisymm (rl_cd_mono n (fun p hp => by rw [h p hp]; exact Nat.le_refl _)) (rl_cd_mono n (fun p hp => by rw [h p hp]; exact Nat.le_refl _))
theorem rl_dig {x y a b t : Nat} (ha : a ≤ t) (hb : b ≤ t) (h : x * (t + 1) + a = y * (t + 1) + b) : x = y ∧ a = b := by
  have hx : x = y := by
    rcases Nat.lt_trichotomy x y with l | e | l
    · exfalso
      have h1 : (x + 1) * (t + 1) ≤ y * (t + 1) := Nat.mul_le_mul_right (t + 1) l
      rw [Nat.succ_mul] at h1
      generalize x * (t + 1) = X at h h1
      generalize y * (t + 1) = Y at h h1
      omega
    · exact e
    · exfalso
      have h1 : (y + 1) * (t + 1) ≤ x * (t + 1) := Nat.mul_le_mul_right (t + 1) l
      rw [Nat.succ_mul] at h1
      generalize x * (t + 1) = X at h h1
      generalize y * (t + 1) = Y at h h1
      omega
  rw [hx] at h
  exact ⟨hx, by generalize y * (t + 1) = Y at h; omega⟩
theorem rl_cd_inj {t a b : Nat → Nat} : ∀ n, rl_le n a t → rl_le n b t → rl_cd t a n = rl_cd t b n → ∀ p, p < n → a p = b p := by
  intro n
  induction n with
  | zero => intro _ _ _ p hp; omega
  | succ n ih =>
    intro ha hb h p hp
    obtain ⟨h1, h2⟩ := rl_dig (ha n (by omega)) (hb n (by omega)) h
    by_cases e : p = n
    · rw [e]; exact h2
    · exact ih (fun q hq => ha q (by omega)) (fun q hq => hb q (by omega)) h1 p (by omega)
theorem rl_cd_lt {t a : Nat → Nat} : ∀ n, (∀ p, p < n → t p ≤ 8) → rl_le n a t → rl_cd t a n < 9 ^ n := by
  intro n
  induction n with
  | zero => intro _ _; show 0 < 9 ^ 0; omega
  | succ n ih =>
    intro ht h
    have h1 := ih (fun p hp => ht p (by omega)) (fun p hp => h p (by omega))
    have h2 := h n (by omega)
    have h3 := ht n (by omega)
    have h4 : (rl_cd t a n + 1) * (t n + 1) ≤ 9 ^ n * 9 := Nat.mul_le_mul h1 (by omega)
    rw [Nat.succ_mul] at h4
    show rl_cd t a n * (t n + 1) + a n < 9 ^ (n + 1)
    rw [Nat.pow_succ]
    generalize rl_cd t a n * (t n + 1) = X at h4 ⊢
    generalize 9 ^ n * 9 = Y at h4 ⊢
    omega
theorem rl_9 {n : Nat} (h : n ≤ 4) : 9 ^ n ≤ 6561 := by
  have : n = 0 ∨ n = 1 ∨ n = 2 ∨ n = 3 ∨ n = 4 := by omega
  rcases this with e | e | e | e | e <;> subst e <;> decide
/-- how many below n hold -/
def rl_cn (f : Nat → Bool) : Nat → Nat
  | 0 => 0
  | n + 1 => rl_cn f n + (if f n = true then 1 else 0)
theorem rl_cn_t {f : Nat → Bool} {n : Nat} (h : f n = true) : rl_cn f (n + 1) = rl_cn f n + 1 := by
  show rl_cn f n + (if f n = true then 1 else 0) = _
  rw [if_pos h]
theorem rl_cn_f {f : Nat → Bool} {n : Nat} (h : ¬ f n = true) : rl_cn f (n + 1) = rl_cn f n := by
  show rl_cn f n + (if f n = true then 1 else 0) = _
  rw [if_neg h]
  rfl
theorem rl_cn_le (f : Nat → Bool) : ∀ n, rl_cn f n ≤ n := by
  intro n
  induction n with
  | zero => exact Nat.le_refl _
  | succ n ih =>
    by_cases h : f n = true
    · rw [rl_cn_t h]; omega
    · rw [rl_cn_f h]; omega
theorem rl_cn_eq {f h : Nat → Bool} : ∀ n, (∀ i, i < n → (f i = true ↔ h i = true)) → rl_cn f n = rl_cn h n := by
  intro n
  induction n with
  | zero => intro _; rfl
  | succ n ih =>
    intro e
    have h1 := ih (fun i hi => e i (by omega))
    by_cases hf : f n = true
    · rw [rl_cn_t hf, rl_cn_t ((e n (by omega)).mp hf), h1]
    · rw [rl_cn_f hf, rl_cn_f (fun z => hf ((e n (by omega)).mpr z)), h1]
theorem rl_cn_0 {f : Nat → Bool} : ∀ n, (∀ i, i < n → ¬ f i = true) → rl_cn f n = 0 := by
  intro n
  induction n with
  | zero => intro _; rfl
  | succ n ih =>
    intro e
    rw [rl_cn_f (e n (by omega))]
    exact ih (fun i hi => e i (by omega))
theorem rl_cn_add (f : Nat → Bool) (a : Nat) : ∀ b, rl_cn f (a + b) = rl_cn f a + rl_cn (fun i => f (a + i)) b := by
  intro b
  induction b with
  | zero => rfl
  | succ b ih =>
    by_cases h : f (a + b) = true
    · have h1 : rl_cn f (a + (b + 1)) = rl_cn f (a + b) + 1 := rl_cn_t h
      have h2 : rl_cn (fun i => f (a + i)) (b + 1) = rl_cn (fun i => f (a + i)) b + 1 := rl_cn_t h
      omega
    · have h1 : rl_cn f (a + (b + 1)) = rl_cn f (a + b) := rl_cn_f h
      have h2 : rl_cn (fun i => f (a + i)) (b + 1) = rl_cn (fun i => f (a + i)) b := rl_cn_f h
      omega
theorem rl_cn_split (f h : Nat → Bool) : ∀ n, rl_cn (fun i => f i && h i) n + rl_cn (fun i => f i && !h i) n = rl_cn f n := by
  intro n
  induction n with
  | zero => rfl
  | succ n ih =>
    show rl_cn (fun i => f i && h i) n + (if (f n && h n) = true then 1 else 0) + (rl_cn (fun i => f i && !h i) n + (if (f n && !h n) = true then 1 else 0)) = rl_cn f n + (if f n = true then 1 else 0)
    cases f n <;> cases h n <;> simp <;> omega
/-- a rising list of all that hold has as many members as hold -/
theorem rl_cn_enum {f : Nat → Bool} {h : Nat → Nat} : ∀ N ct, (∀ j k, j < k → k < ct → h j < h k) → (∀ k, k < ct → h k < N) →
    (∀ i, i < N → (f i = true ↔ ∃ k, k < ct ∧ h k = i)) → rl_cn f N = ct := by
  intro N
  induction N with
  | zero =>
    intro ct _ hb _
    show 0 = ct
    by_cases e : ct = 0
    · exact e.symm
    · have := hb 0 (by omega); omega
  | succ N ih =>
    intro ct hm hb hf
    by_cases e : f N = true
    · obtain ⟨k, hk, ek⟩ := (hf N (by omega)).mp e
      have hk1 : k + 1 = ct := by
        by_cases l : k + 1 < ct
        · have h1 := hm k (k + 1) (by omega) l
          have h2 := hb (k + 1) l
          omega
        · omega
      rw [rl_cn_t e, ih k (fun i j hij hj => hm i j hij (by omega)) (fun j hj => by have := hm j k hj hk; omega) ?_]
      · exact hk1
      · intro i hi
        rw [hf i (by omega)]
        constructor
        · rintro ⟨j, hj, ej⟩
          refine ⟨j, ?_, ej⟩
          by_cases q : j = k
          · rw [q] at ej; omega
          · omega
        · rintro ⟨j, hj, ej⟩
          exact ⟨j, by omega, ej⟩
    · rw [rl_cn_f e]
      refine ih ct hm (fun k hk => ?_) (fun i hi => hf i (by omega))
      have h1 := hb k hk
      by_cases q : h k = N
      · exact absurd ((hf N (by omega)).mpr ⟨k, hk, q⟩) e
      · omega
/-- the blocks of a hundred -/
theorem rl_cn_blk (f : Nat → Bool) : ∀ p, rl_cn f (p * 100) = rl_sum (fun q => rl_cn (fun i => f (q * 100 + i)) 100) p := by
  intro p
  induction p with
  | zero => rw [Nat.zero_mul]; rfl
  | succ p ih =>
    rw [Nat.succ_mul, rl_cn_add, ih]
    rfl
