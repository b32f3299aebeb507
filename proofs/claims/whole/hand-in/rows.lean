section
theorem pk_us {f : Nat → Int32} {k : Nat} {x : Int32} : upd f k x k = x := if_pos rfl
theorem pk_un {f : Nat → Int32} {k j : Nat} {x : Int32} (h : j ≠ k) : upd f k x j = f j := if_neg h
theorem pk_sub {a b : Nat} (h : b ≤ a) : nI a - nI b = nI (a - b) := by
  obtain ⟨c, rfl⟩ : ∃ c, a = c + b := ⟨a - b, by omega⟩
  rw [← nI_add, Int32.add_sub_cancel, Nat.add_sub_cancel]
theorem pk_m1 (n : Nat) : nI (n + 1) + (-1) = nI n := by
  rw [← nI_1, Int32.add_assoc, show (1 : Int32) + (-1) = 0 from rfl, Int32.add_zero]
theorem pk_mul (a b : Nat) : nI a * nI b = nI (a * b) := (Int32.ofNat_mul a b).symm
theorem pk_ix (x : Int32) {n : Nat} (hn : n < 2 ^ 31) : x < 0 ∨ nI n ≤ x ∨ ∃ j : Nat, j < n ∧ x = nI j := by
  by_cases h : x < 0
  · exact Or.inl h
  · obtain ⟨j, hj, rfl⟩ := nI_of h
    by_cases h2 : j < n
    · exact Or.inr (Or.inr ⟨j, h2, rfl⟩)
    · exact Or.inr (Or.inl (nI_le (by omega) hj))
theorem pk_le {x y : Int32} {A B : Prop} (a b : Nat) (f : a ≤ b → A) (g : b < a → B) (hx : x = nI a := by rfl) (hy : y = nI b := by rfl) (ha : a < 2 ^ 31 := by omega) (hb : b < 2 ^ 31 := by omega) : (x ≤ y → A) ∧ (¬ x ≤ y → B) := by
  subst hx hy
  rw [nI_leI ha hb]
  exact ⟨f, fun z => g (by omega)⟩
theorem pk_lt {x y : Int32} {A B : Prop} (a b : Nat) (f : a < b → A) (g : b ≤ a → B) (hx : x = nI a := by rfl) (hy : y = nI b := by rfl) (ha : a < 2 ^ 31 := by omega) (hb : b < 2 ^ 31 := by omega) : (x < y → A) ∧ (¬ x < y → B) := by
  subst hx hy
  rw [nI_ltI ha hb]
  exact ⟨f, fun z => g (by omega)⟩
theorem pk_eq {x y : Int32} {A B : Prop} (a b : Nat) (f : a = b → A) (g : a ≠ b → B) (hx : x = nI a := by rfl) (hy : y = nI b := by rfl) (ha : a < 2 ^ 31 := by omega) (hb : b < 2 ^ 31 := by omega) : (x = y → A) ∧ (¬ x = y → B) := by
  subst hx hy
  rw [nI_eq ha hb]
  exact ⟨f, g⟩
theorem pk_in {x : Int32} (n N : Nat) (h : n < N) (hx : x = nI n := by rfl) (hN : N < 2 ^ 31 := by omega) : vp_in x N := by
  subst hx
  exact vp_in_nI h hN
theorem pk_cl {x : Int32} (n : Nat) (hx : x = nI n := by rfl) (h : n < 2 ^ 31 := by omega) : x.toNatClampNeg = n := by
  subst hx
  exact nI_clamp h
theorem pk_least (P : Nat → Prop) (h : ∃ k, P k) : ∃ k, P k ∧ ∀ j, j < k → ¬ P j := by
  obtain ⟨k, hk⟩ := h
  induction k using Nat.strongRecOn with
  | ind k ih =>
    by_cases e : ∃ j, j < k ∧ P j
    · obtain ⟨j, hj, pj⟩ := e
      exact ih j hj pj
    · exact ⟨k, hk, fun j hj pj => e ⟨j, hj, pj⟩⟩
theorem pk_loop {σ : Type} (W : Nat → Nat → σ → Prop) (I : Nat → σ → Prop) (e i0 : Nat) (s : σ) (hi : i0 ≤ e) (h0 : I i0 s) (hx : ∀ n s, I e s → W (n + 1) e s)
    (hs : ∀ n i s, i < e → I i s → (∀ s', I (i + 1) s' → W n (i + 1) s') → W (n + 1) i s) : ∃ n, W n i0 s :=
  ⟨e + 1, loop_i W I e hx hs (e + 1) i0 s hi (by omega) h0⟩
theorem pk_loopD {σ : Type} (W : Nat → Nat → σ → Prop) (I : Nat → σ → Prop) (hx : ∀ n s, I 0 s → W (n + 1) 0 s)
    (hs : ∀ n i s, I (i + 1) s → (∀ s', I i s' → W n i s') → W (n + 1) (i + 1) s) : ∀ (e : Nat) (s : σ), I e s → W (e + 1) e s := by
  intro e
  induction e with
  | zero => exact fun s h => hx 0 s h
  | succ e ih => exact fun s h => hs (e + 1) e s h (fun s' h' => ih s' h')
end
section
/-- pointwise at most, below n -/
def rl_le (n : Nat) (a b : Nat → Nat) : Prop := ∀ p, p < n → a p ≤ b p
def rl_sum (a : Nat → Nat) : Nat → Nat
  | 0 => 0
  | n + 1 => rl_sum a n + a n
theorem rl_sum_le {a b : Nat → Nat} : ∀ n, rl_le n a b → rl_sum a n ≤ rl_sum b n := by
  intro n
  induction n with
  | zero => intro _; exact Nat.le_refl _
  | succ n ih =>
    intro h
    have h1 := ih (fun p hp => h p (by omega))
    have h2 := h n (by omega)
    show rl_sum a n + a n ≤ rl_sum b n + b n
    omega
theorem rl_sum_lt {a b : Nat → Nat} : ∀ n, rl_le n a b → ∀ p, p < n → a p < b p → rl_sum a n < rl_sum b n := by
  intro n
  induction n with
  | zero => intro _ p hp; omega
  | succ n ih =>
    intro h p hp hlt
    have h2 := h n (by omega)
    show rl_sum a n + a n < rl_sum b n + b n
    by_cases e : p = n
    · rw [e] at hlt
      have h1 := rl_sum_le (a := a) (b := b) n (fun q hq => h q (by omega))
      omega
    · have h1 := ih (fun q hq => h q (by omega)) p (by omega) hlt
      omega
theorem rl_sum_eq {a b : Nat → Nat} : ∀ n, (∀ p, p < n → a p = b p) → rl_sum a n = rl_sum b n := by
  intro n h
  have h1 := rl_sum_le (a := a) (b := b) n (fun p hp => by rw [h p hp]; exact Nat.le_refl _)
  have h2 := rl_sum_le (a := b) (b := a) n (fun p hp => by rw [h p hp]; exact Nat.le_refl _)
  omega
theorem rl_sum_c (c : Nat) : ∀ n, rl_sum (fun _ => c) n = n * c := by
  intro n
  induction n with
  | zero => show 0 = 0 * c; rw [Nat.zero_mul]
  | succ n ih =>
    show rl_sum (fun _ => c) n + c = (n + 1) * c
    rw [ih, Nat.succ_mul]
def rl_max (a b : Nat → Nat) : Nat → Nat := fun p => if a p ≤ b p then b p else a p
theorem rl_max_l (a b : Nat → Nat) (p : Nat) : a p ≤ rl_max a b p := by
  show a p ≤ if a p ≤ b p then b p else a p
  split <;> omega
theorem rl_max_r (a b : Nat → Nat) (p : Nat) : b p ≤ rl_max a b p := by
  show b p ≤ if a p ≤ b p then b p else a p
  split <;> omega
theorem rl_max_or (a b : Nat → Nat) (p : Nat) : rl_max a b p = a p ∨ rl_max a b p = b p := by
  show (if a p ≤ b p then b p else a p) = a p ∨ (if a p ≤ b p then b p else a p) = b p
  split
  · exact Or.inr rfl
  · exact Or.inl rfl
/-- the greatest choice below t that C takes -/
def rl_IsL (n : Nat) (t : Nat → Nat) (C : (Nat → Nat) → Prop) (L : Nat → Nat) : Prop :=
  rl_le n L t ∧ C L ∧ ∀ b, rl_le n b t → C b → rl_le n b L
theorem rl_greatest {n : Nat} {t : Nat → Nat} {C : (Nat → Nat) → Prop} (hex : ∃ b, rl_le n b t ∧ C b)
    (hmax : ∀ a b, rl_le n a t → rl_le n b t → C a → C b → C (rl_max a b)) : ∃ L, rl_IsL n t C L := by
  obtain ⟨b0, hb0, cb0⟩ := hex
  have hd : ∃ d, ∃ b, rl_le n b t ∧ C b ∧ rl_sum b n + d = rl_sum t n :=
    ⟨rl_sum t n - rl_sum b0 n, b0, hb0, cb0, by have := rl_sum_le n hb0; omega⟩
  obtain ⟨d, ⟨L, hL, cL, eL⟩, hmin⟩ := pk_least (fun d => ∃ b, rl_le n b t ∧ C b ∧ rl_sum b n + d = rl_sum t n) hd
  refine ⟨L, hL, cL, fun b hb cb p hp => ?_⟩
  apply Classical.byContradiction
  intro hn
  have hM : rl_le n (rl_max b L) t := by
    intro q hq
    rcases rl_max_or b L q with e | e
    · rw [e]; exact hb q hq
    · rw [e]; exact hL q hq
  have cM := hmax b L hb hL cb cL
  have lt : rl_sum L n < rl_sum (rl_max b L) n :=
    rl_sum_lt n (fun q _ => rl_max_r b L q) p hp (by have := rl_max_l b L p; omega)
  have le := rl_sum_le n hM
  exact hmin (rl_sum t n - rl_sum (rl_max b L) n) (by omega) ⟨rl_max b L, hM, cM, by omega⟩
theorem rl_IsL_uq {n : Nat} {t : Nat → Nat} {C : (Nat → Nat) → Prop} {L K : Nat → Nat} (h : rl_IsL n t C L)
    (hK : rl_le n K t) (cK : C K) (hLK : rl_le n L K) : ∀ p, p < n → K p = L p := by
  intro p hp
  have h1 := h.2.2 K hK cK p hp
  have h2 := hLK p hp
  omega
/-- the number that the digits of κ make, each below its own top -/
def rl_cd (t κ : Nat → Nat) : Nat → Nat
  | 0 => 0
  | n + 1 => rl_cd t κ n * (t n + 1) + κ n
theorem rl_cd_mono {t a b : Nat → Nat} : ∀ n, rl_le n a b → rl_cd t a n ≤ rl_cd t b n := by
  intro n
  induction n with
  | zero => intro _; exact Nat.le_refl _
  | succ n ih =>
    intro h
    exact Nat.add_le_add (Nat.mul_le_mul_right _ (ih (fun p hp => h p (by omega)))) (h n (by omega))
theorem rl_cd_eq {t a b : Nat → Nat} : ∀ n, (∀ p, p < n → a p = b p) → rl_cd t a n = rl_cd t b n := by
  intro n h
  exact Nat.le_antisymm (rl_cd_mono n (fun p hp => by rw [h p hp]; exact Nat.le_refl _)) (rl_cd_mono n (fun p hp => by rw [h p hp]; exact Nat.le_refl _))
theorem rl_dig {x y a b t : Nat} (ha : a ≤ t) (hb : b ≤ t) (h : x * (t + 1) + a = y * (t + 1) + b) : x = y ∧ a = b := by
  have hx : x = y := by
    rcases Nat.lt_trichotomy x y with l | e | l
    · exfalso
      have h1 : (x + 1) * (t + 1) ≤ y * (t + 1) := Nat.mul_le_mul_right (t + 1) l
      rw [Nat.succ_mul] at h1
      generalize x * (t + 1) = X at h h1
      generalize y * (t + 1) = Y at h h1
      omega
    · exact e
    · exfalso
      have h1 : (y + 1) * (t + 1) ≤ x * (t + 1) := Nat.mul_le_mul_right (t + 1) l
      rw [Nat.succ_mul] at h1
      generalize x * (t + 1) = X at h h1
      generalize y * (t + 1) = Y at h h1
      omega
  rw [hx] at h
  exact ⟨hx, by generalize y * (t + 1) = Y at h; omega⟩
theorem rl_cd_inj {t a b : Nat → Nat} : ∀ n, rl_le n a t → rl_le n b t → rl_cd t a n = rl_cd t b n → ∀ p, p < n → a p = b p := by
  intro n
  induction n with
  | zero => intro _ _ _ p hp; omega
  | succ n ih =>
    intro ha hb h p hp
    obtain ⟨h1, h2⟩ := rl_dig (ha n (by omega)) (hb n (by omega)) h
    by_cases e : p = n
    · rw [e]; exact h2
    · exact ih (fun q hq => ha q (by omega)) (fun q hq => hb q (by omega)) h1 p (by omega)
theorem rl_cd_lt {t a : Nat → Nat} : ∀ n, (∀ p, p < n → t p ≤ 8) → rl_le n a t → rl_cd t a n < 9 ^ n := by
  intro n
  induction n with
  | zero => intro _ _; show 0 < 9 ^ 0; omega
  | succ n ih =>
    intro ht h
    have h1 := ih (fun p hp => ht p (by omega)) (fun p hp => h p (by omega))
    have h2 := h n (by omega)
    have h3 := ht n (by omega)
    have h4 : (rl_cd t a n + 1) * (t n + 1) ≤ 9 ^ n * 9 := Nat.mul_le_mul h1 (by omega)
    rw [Nat.succ_mul] at h4
    show rl_cd t a n * (t n + 1) + a n < 9 ^ (n + 1)
    rw [Nat.pow_succ]
    generalize rl_cd t a n * (t n + 1) = X at h4 ⊢
    generalize 9 ^ n * 9 = Y at h4 ⊢
    omega
theorem rl_9 {n : Nat} (h : n ≤ 4) : 9 ^ n ≤ 6561 := by
  have : n = 0 ∨ n = 1 ∨ n = 2 ∨ n = 3 ∨ n = 4 := by omega
  rcases this with e | e | e | e | e <;> subst e <;> decide
/-- how many below n hold -/
def rl_cn (f : Nat → Bool) : Nat → Nat
  | 0 => 0
  | n + 1 => rl_cn f n + (if f n = true then 1 else 0)
theorem rl_cn_t {f : Nat → Bool} {n : Nat} (h : f n = true) : rl_cn f (n + 1) = rl_cn f n + 1 := by
  show rl_cn f n + (if f n = true then 1 else 0) = _
  rw [if_pos h]
theorem rl_cn_f {f : Nat → Bool} {n : Nat} (h : ¬ f n = true) : rl_cn f (n + 1) = rl_cn f n := by
  show rl_cn f n + (if f n = true then 1 else 0) = _
  rw [if_neg h]
  rfl
theorem rl_cn_le (f : Nat → Bool) : ∀ n, rl_cn f n ≤ n := by
  intro n
  induction n with
  | zero => exact Nat.le_refl _
  | succ n ih =>
    by_cases h : f n = true
    · rw [rl_cn_t h]; omega
    · rw [rl_cn_f h]; omega
theorem rl_cn_eq {f h : Nat → Bool} : ∀ n, (∀ i, i < n → (f i = true ↔ h i = true)) → rl_cn f n = rl_cn h n := by
  intro n
  induction n with
  | zero => intro _; rfl
  | succ n ih =>
    intro e
    have h1 := ih (fun i hi => e i (by omega))
    by_cases hf : f n = true
    · rw [rl_cn_t hf, rl_cn_t ((e n (by omega)).mp hf), h1]
    · rw [rl_cn_f hf, rl_cn_f (fun z => hf ((e n (by omega)).mpr z)), h1]
theorem rl_cn_0 {f : Nat → Bool} : ∀ n, (∀ i, i < n → ¬ f i = true) → rl_cn f n = 0 := by
  intro n
  induction n with
  | zero => intro _; rfl
  | succ n ih =>
    intro e
    rw [rl_cn_f (e n (by omega))]
    exact ih (fun i hi => e i (by omega))
theorem rl_cn_add (f : Nat → Bool) (a : Nat) : ∀ b, rl_cn f (a + b) = rl_cn f a + rl_cn (fun i => f (a + i)) b := by
  intro b
  induction b with
  | zero => rfl
  | succ b ih =>
    by_cases h : f (a + b) = true
    · have h1 : rl_cn f (a + (b + 1)) = rl_cn f (a + b) + 1 := rl_cn_t h
      have h2 : rl_cn (fun i => f (a + i)) (b + 1) = rl_cn (fun i => f (a + i)) b + 1 := rl_cn_t h
      omega
    · have h1 : rl_cn f (a + (b + 1)) = rl_cn f (a + b) := rl_cn_f h
      have h2 : rl_cn (fun i => f (a + i)) (b + 1) = rl_cn (fun i => f (a + i)) b := rl_cn_f h
      omega
theorem rl_cn_split (f h : Nat → Bool) : ∀ n, rl_cn (fun i => f i && h i) n + rl_cn (fun i => f i && !h i) n = rl_cn f n := by
  intro n
  induction n with
  | zero => rfl
  | succ n ih =>
    show rl_cn (fun i => f i && h i) n + (if (f n && h n) = true then 1 else 0) + (rl_cn (fun i => f i && !h i) n + (if (f n && !h n) = true then 1 else 0)) = rl_cn f n + (if f n = true then 1 else 0)
    cases f n <;> cases h n <;> simp <;> omega
/-- a rising list of all that hold has as many members as hold -/
theorem rl_cn_enum {f : Nat → Bool} {h : Nat → Nat} : ∀ N ct, (∀ j k, j < k → k < ct → h j < h k) → (∀ k, k < ct → h k < N) →
    (∀ i, i < N → (f i = true ↔ ∃ k, k < ct ∧ h k = i)) → rl_cn f N = ct := by
  intro N
  induction N with
  | zero =>
    intro ct _ hb _
    show 0 = ct
    by_cases e : ct = 0
    · exact e.symm
    · have := hb 0 (by omega); omega
  | succ N ih =>
    intro ct hm hb hf
    by_cases e : f N = true
    · obtain ⟨k, hk, ek⟩ := (hf N (by omega)).mp e
      have hk1 : k + 1 = ct := by
        by_cases l : k + 1 < ct
        · have h1 := hm k (k + 1) (by omega) l
          have h2 := hb (k + 1) l
          omega
        · omega
      rw [rl_cn_t e, ih k (fun i j hij hj => hm i j hij (by omega)) (fun j hj => by have := hm j k hj hk; omega) ?_]
      · exact hk1
      · intro i hi
        rw [hf i (by omega)]
        constructor
        · rintro ⟨j, hj, ej⟩
          refine ⟨j, ?_, ej⟩
          by_cases q : j = k
          · rw [q] at ej; omega
          · omega
        · rintro ⟨j, hj, ej⟩
          exact ⟨j, by omega, ej⟩
    · rw [rl_cn_f e]
      refine ih ct hm (fun k hk => ?_) (fun i hi => hf i (by omega))
      have h1 := hb k hk
      by_cases q : h k = N
      · exact absurd ((hf N (by omega)).mpr ⟨k, hk, q⟩) e
      · omega
/-- the blocks of a hundred -/
theorem rl_cn_blk (f : Nat → Bool) : ∀ p, rl_cn f (p * 100) = rl_sum (fun q => rl_cn (fun i => f (q * 100 + i)) 100) p := by
  intro p
  induction p with
  | zero => rw [Nat.zero_mul]; rfl
  | succ p ih =>
    rw [Nat.succ_mul, rl_cn_add, ih]
    rfl
end
section
/-- the component of p at place k: a stored number, or "now" behind them -/
def rl_G (ct : Nat → Nat) (g : Nat → Nat → Nat) (iv : Nat → Nat) (p k : Nat) : Nat := if k < ct p then g p k else iv p + 1
def rl_Sto (n c : Nat) (iv ct : Nat → Nat) (g : Nat → Nat → Nat) : Prop :=
  ∀ p, p < n → 1 ≤ ct p ∧ ct p ≤ c ∧ (∀ j k, j < k → k < ct p → g p j < g p k) ∧ (∀ k, k < ct p → g p k ≤ iv p) ∧ iv p ≤ 99
def rl_Msg (n m : Nat) (iv st sd rc si ri : Nat → Nat) : Prop :=
  (∀ s, st s ≤ 2 ∧ sd s < n ∧ rc s < n ∧ si s ≤ 99 ∧ ri s ≤ 99) ∧ ∀ s, s < m → st s = 2 → ri s ≤ iv (rc s)
def rl_Cons (m : Nat) (st sd rc si ri x : Nat → Nat) : Prop :=
  ∀ s, s < m → st s = 2 → ri s < x (rc s) → si s < x (sd s)
def rl_C (m : Nat) (iv ct : Nat → Nat) (g : Nat → Nat → Nat) (st sd rc si ri κ : Nat → Nat) : Prop :=
  rl_Cons m st sd rc si ri (fun p => rl_G ct g iv p (κ p))
def rl_W (n c m : Nat) (iv ct : Nat → Nat) (g : Nat → Nat → Nat) (st sd rc si ri : Nat → Nat) : Prop :=
  ((2 ≤ n ∧ n ≤ 4) ∧ (3 ≤ c ∧ c ≤ 8) ∧ (4 ≤ m ∧ m ≤ 16)) ∧ rl_Sto n c iv ct g ∧ rl_Msg n m iv st sd rc si ri ∧
    ∃ B : Nat → Nat, (∀ p, p < n → B p < ct p) ∧ rl_C m iv ct g st sd rc si ri B
/-- the top places for a set T -/
def rl_tp (ct : Nat → Nat) (T : Int32) (p : Nat) : Nat := if (T &&& ((1 : Int32) <<< (nI p &&& 31))) = 0 then ct p else ct p - 1
/-- one cell of a function changed -/
def rl_u (f : Nat → Nat) (k v : Nat) : Nat → Nat := fun j => if j = k then v else f j
theorem rl_us {f : Nat → Nat} {k v : Nat} : rl_u f k v k = v := if_pos rfl
theorem rl_un {f : Nat → Nat} {k v j : Nat} (h : j ≠ k) : rl_u f k v j = f j := if_neg h
section
variable {n c m : Nat} {iv ct st sd rc si ri : Nat → Nat} {g : Nat → Nat → Nat}
theorem rl_tp_le (ct : Nat → Nat) (T : Int32) (p : Nat) : rl_tp ct T p ≤ ct p := by
  unfold rl_tp
  split <;> omega
theorem rl_G_in {p k : Nat} (h : k < ct p) : rl_G ct g iv p k = g p k := if_pos h
theorem rl_G_now {p k : Nat} (h : ¬ k < ct p) : rl_G ct g iv p k = iv p + 1 := if_neg h
theorem rl_G_lt (hS : rl_Sto n c iv ct g) {p j k : Nat} (hp : p < n) (hj : j < k) (hk : k ≤ ct p) : rl_G ct g iv p j < rl_G ct g iv p k := by
  obtain ⟨_, _, h3, h4, _⟩ := hS p hp
  have hj' : j < ct p := by omega
  rw [rl_G_in hj']
  by_cases e : k < ct p
  · rw [rl_G_in e]; exact h3 j k hj e
  · rw [rl_G_now e]
    have := h4 j hj'
    omega
theorem rl_G_le (hS : rl_Sto n c iv ct g) {p j k : Nat} (hp : p < n) (hj : j ≤ k) (hk : k ≤ ct p) : rl_G ct g iv p j ≤ rl_G ct g iv p k := by
  by_cases e : j = k
  · rw [e]; exact Nat.le_refl _
  · exact Nat.le_of_lt (rl_G_lt hS hp (by omega) hk)
theorem rl_G_100 (hS : rl_Sto n c iv ct g) {p : Nat} (k : Nat) (hp : p < n) : rl_G ct g iv p k ≤ 100 := by
  obtain ⟨_, _, _, h4, h5⟩ := hS p hp
  by_cases e : k < ct p
  · rw [rl_G_in e]
    have := h4 k e
    omega
  · rw [rl_G_now e]; omega
/-- the place is told by the number -/
theorem rl_G_inj (hS : rl_Sto n c iv ct g) {p j k : Nat} (hp : p < n) (hj : j ≤ ct p) (hk : k ≤ ct p) (e : rl_G ct g iv p j = rl_G ct g iv p k) : j = k := by
  rcases Nat.lt_trichotomy j k with l | l | l
  · have := rl_G_lt hS hp l hk; omega
  · exact l
  · have := rl_G_lt hS hp l hj; omega
theorem rl_exL (hW : rl_W n c m iv ct g st sd rc si ri) (T : Int32) : ∃ L, rl_IsL n (rl_tp ct T) (rl_C m iv ct g st sd rc si ri) L := by
  obtain ⟨_, hS, hM, B, hB, cB⟩ := hW
  refine rl_greatest ⟨B, fun p hp => ?_, cB⟩ (fun a b ha hb ca cb => ?_)
  · have := hB p hp
    unfold rl_tp
    split <;> omega
  · intro s hs h2 hr
    have hr' : ri s < rl_G ct g iv (rc s) (rl_max a b (rc s)) := hr
    show si s < rl_G ct g iv (sd s) (rl_max a b (sd s))
    have hsd := (hM.1 s).2.1
    have hct : rl_max a b (sd s) ≤ ct (sd s) := by
      have h1 := ha (sd s) hsd
      have h2 := hb (sd s) hsd
      have h3 := rl_tp_le ct T (sd s)
      rcases rl_max_or a b (sd s) with e | e <;> rw [e] <;> omega
    rcases rl_max_or a b (rc s) with e | e
    · rw [e] at hr'
      exact Nat.lt_of_lt_of_le (ca s hs h2 hr') (rl_G_le hS hsd (rl_max_l a b (sd s)) hct)
    · rw [e] at hr'
      exact Nat.lt_of_lt_of_le (cb s hs h2 hr') (rl_G_le hS hsd (rl_max_r a b (sd s)) hct)
/-- an orphan above the line: the line's component of its receiver is stored, and not above its receipt -/
theorem rl_low (hS : rl_Sto n c iv ct g) (hM : rl_Msg n m iv st sd rc si ri) {T : Int32} {L κ : Nat → Nat}
    (hL : rl_IsL n (rl_tp ct T) (rl_C m iv ct g st sd rc si ri) L) (hκ : rl_le n κ (rl_tp ct T)) (hLκ : rl_le n L κ) {s : Nat} (hs : s < m) (h2 : st s = 2)
    (hsi : ¬ si s < rl_G ct g iv (sd s) (κ (sd s))) : L (rc s) < ct (rc s) ∧ g (rc s) (L (rc s)) ≤ ri s := by
  have hsd := (hM.1 s).2.1
  have hrc := (hM.1 s).2.2.1
  have hiv := hM.2 s hs h2
  have h3 := rl_tp_le ct T (sd s)
  have h4 := hκ (sd s) hsd
  have h5 : rl_G ct g iv (sd s) (L (sd s)) ≤ rl_G ct g iv (sd s) (κ (sd s)) := rl_G_le hS hsd (hLκ _ hsd) (by omega)
  have h6 : ¬ ri s < rl_G ct g iv (rc s) (L (rc s)) := by
    intro z
    have : si s < rl_G ct g iv (sd s) (L (sd s)) := hL.2.1 s hs h2 z
    omega
  by_cases e : L (rc s) < ct (rc s)
  · rw [rl_G_in e] at h6
    exact ⟨e, by omega⟩
  · rw [rl_G_now e] at h6
    omega
/-- the messages change: those that bind a choice are old ones, or are received now -/
theorem rl_W_msg (hW : rl_W n c m iv ct g st sd rc si ri) {st' sd' rc' si' ri' : Nat → Nat} (hM : rl_Msg n m iv st' sd' rc' si' ri')
    (h : ∀ s, s < m → st' s = 2 → (st s = 2 ∧ sd' s = sd s ∧ rc' s = rc s ∧ si' s = si s ∧ ri' s = ri s) ∨ iv (rc' s) ≤ ri' s) :
    rl_W n c m iv ct g st' sd' rc' si' ri' := by
  obtain ⟨hb, hS, _, B, hB, cB⟩ := hW
  refine ⟨hb, hS, hM, B, hB, fun s hs h2 hr => ?_⟩
  have hr' : ri' s < rl_G ct g iv (rc' s) (B (rc' s)) := hr
  show si' s < rl_G ct g iv (sd' s) (B (sd' s))
  rcases h s hs h2 with ⟨e1, e2, e3, e4, e5⟩ | e
  · rw [e3, e5] at hr'
    rw [e2, e4]
    exact cB s hs e1 hr'
  · exfalso
    have hrc := (hM.1 s).2.2.1
    have h3 := hB _ hrc
    rw [rl_G_in h3] at hr'
    have := (hS _ hrc).2.2.2.1 _ h3
    omega
theorem rl_W_send (hW : rl_W n c m iv ct g st sd rc si ri) {s p q : Nat} (hp : p < n) (hq : q < n) :
    rl_W n c m iv ct g (rl_u st s 1) (rl_u sd s p) (rl_u rc s q) (rl_u si s (iv p)) ri := by
  have hS := hW.2.1
  have hM := hW.2.2.1
  refine rl_W_msg hW ⟨fun j => ?_, fun j hj h2 => ?_⟩ (fun j hj h2 => ?_)
  · by_cases e : j = s
    · rw [e, rl_us, rl_us, rl_us, rl_us]
      exact ⟨by omega, hp, hq, (hS p hp).2.2.2.2, (hM.1 s).2.2.2.2⟩
    · rw [rl_un e, rl_un e, rl_un e, rl_un e]
      exact hM.1 j
  · by_cases e : j = s
    · rw [e, rl_us] at h2; omega
    · rw [rl_un e] at h2 ⊢
      exact hM.2 j hj h2
  · by_cases e : j = s
    · rw [e, rl_us] at h2; omega
    · rw [rl_un e] at h2
      rw [rl_un e, rl_un e, rl_un e]
      exact Or.inl ⟨h2, rfl, rfl, rfl, rfl⟩
theorem rl_W_deliver (hW : rl_W n c m iv ct g st sd rc si ri) {s : Nat} :
    rl_W n c m iv ct g (rl_u st s 2) sd rc si (rl_u ri s (iv (rc s))) := by
  have hS := hW.2.1
  have hM := hW.2.2.1
  refine rl_W_msg hW ⟨fun j => ?_, fun j hj h2 => ?_⟩ (fun j hj h2 => ?_)
  · by_cases e : j = s
    · rw [e, rl_us, rl_us]
      have h := hM.1 s
      exact ⟨by omega, h.2.1, h.2.2.1, h.2.2.2.1, (hS _ h.2.2.1).2.2.2.2⟩
    · rw [rl_un e, rl_un e]
      exact hM.1 j
  · by_cases e : j = s
    · rw [e, rl_us]; exact Nat.le_refl _
    · rw [rl_un e] at h2 ⊢
      exact hM.2 j hj h2
  · by_cases e : j = s
    · rw [e, rl_us]; exact Or.inr (Nat.le_refl _)
    · rw [rl_un e] at h2
      rw [rl_un e]
      exact Or.inl ⟨h2, rfl, rfl, rfl, rfl⟩
/-- some slots are emptied -/
theorem rl_W_drop (hW : rl_W n c m iv ct g st sd rc si ri) {st' : Nat → Nat} (h : ∀ s, st' s = st s ∨ st' s = 0) :
    rl_W n c m iv ct g st' sd rc si ri := by
  have hM := hW.2.2.1
  have h3 : ∀ j, st' j = 2 → st j = 2 := by
    intro j h2
    rcases h j with e | e <;> omega
  refine rl_W_msg hW ⟨fun j => ?_, fun j hj h2 => hM.2 j hj (h3 j h2)⟩ (fun j hj h2 => Or.inl ⟨h3 j h2, rfl, rfl, rfl, rfl⟩)
  have hj := hM.1 j
  refine ⟨?_, hj.2⟩
  rcases h j with e | e <;> omega
/-- a checkpoint is stored -/
def rl_gC (g : Nat → Nat → Nat) (p k v : Nat) : Nat → Nat → Nat := fun q j => if q = p ∧ j = k then v else g q j
theorem rl_gC_s {p k v : Nat} : rl_gC g p k v p k = v := if_pos ⟨rfl, rfl⟩
theorem rl_gC_n {p k v q j : Nat} (h : ¬ (q = p ∧ j = k)) : rl_gC g p k v q j = g q j := if_neg h
theorem rl_W_check (hW : rl_W n c m iv ct g st sd rc si ri) {p : Nat} (hp : p < n) (h99 : iv p < 99) (hc : ct p < c) :
    rl_W n c m (rl_u iv p (iv p + 1)) (rl_u ct p (ct p + 1)) (rl_gC g p (ct p) (iv p + 1)) st sd rc si ri := by
  obtain ⟨hb, hS, hM, B, hB, cB⟩ := hW
  have hge : ∀ q, iv q ≤ rl_u iv p (iv p + 1) q := by
    intro q
    by_cases e : q = p
    · rw [e, rl_us]; omega
    · rw [rl_un e]; exact Nat.le_refl _
  have hgB : ∀ q, q < n → rl_G (rl_u ct p (ct p + 1)) (rl_gC g p (ct p) (iv p + 1)) (rl_u iv p (iv p + 1)) q (B q) = rl_G ct g iv q (B q) := by
    intro q hq
    have h1 := hB q hq
    have h2 : B q < rl_u ct p (ct p + 1) q := by
      by_cases e : q = p
      · rw [e] at h1 ⊢; rw [rl_us]; omega
      · rw [rl_un e]; exact h1
    rw [rl_G_in h2, rl_G_in h1, rl_gC_n]
    rintro ⟨e1, e2⟩
    rw [e1] at h1 e2
    omega
  refine ⟨hb, fun q hq => ?_, ⟨hM.1, fun s hs h2 => Nat.le_trans (hM.2 s hs h2) (hge _)⟩, B, fun q hq => ?_, fun s hs h2 hr => ?_⟩
  · obtain ⟨h1, h2, h3, h4, h5⟩ := hS q hq
    by_cases e : q = p
    · rw [e] at h1 h2 h3 h4 h5 ⊢
      rw [rl_us, rl_us]
      refine ⟨by omega, by omega, fun j k hj hk => ?_, fun k hk => ?_, by omega⟩
      · have hj' : ¬ (p = p ∧ j = ct p) := fun z => by omega
        rw [rl_gC_n hj']
        by_cases ek : k = ct p
        · rw [ek, rl_gC_s]
          have := h4 j (by omega)
          omega
        · rw [rl_gC_n (fun z => ek z.2)]
          exact h3 j k hj (by omega)
      · by_cases ek : k = ct p
        · rw [ek, rl_gC_s]; exact Nat.le_refl _
        · rw [rl_gC_n (fun z => ek z.2)]
          have := h4 k (by omega)
          omega
    · rw [rl_un e, rl_un e]
      refine ⟨h1, h2, fun j k hj hk => ?_, fun k hk => ?_, h5⟩
      · rw [rl_gC_n (fun z => e z.1), rl_gC_n (fun z => e z.1)]
        exact h3 j k hj hk
      · rw [rl_gC_n (fun z => e z.1)]
        exact h4 k hk
  · have h1 := hB q hq
    by_cases e : q = p
    · rw [e] at h1 ⊢; rw [rl_us]; omega
    · rw [rl_un e]; exact h1
  · have h := hM.1 s
    have hr' : ri s < rl_G (rl_u ct p (ct p + 1)) (rl_gC g p (ct p) (iv p + 1)) (rl_u iv p (iv p + 1)) (rc s) (B (rc s)) := hr
    show si s < rl_G (rl_u ct p (ct p + 1)) (rl_gC g p (ct p) (iv p + 1)) (rl_u iv p (iv p + 1)) (sd s) (B (sd s))
    rw [hgB _ h.2.2.1] at hr'
    rw [hgB _ h.2.1]
    exact cB s hs h2 hr'
end
end
section
section
variable {n c m : Nat} {iv ct st sd rc si ri : Nat → Nat} {g : Nat → Nat → Nat}
/-- all roll back to a line -/
theorem rl_W_recover (hW : rl_W n c m iv ct g st sd rc si ri) {T : Int32} {L : Nat → Nat}
    (hL : rl_IsL n (rl_tp ct T) (rl_C m iv ct g st sd rc si ri) L) {iv' ct' st' : Nat → Nat}
    (h1 : ∀ p, p < n → (L p < ct p → iv' p = g p (L p) ∧ ct' p = L p + 1) ∧ (¬ L p < ct p → iv' p = iv p ∧ ct' p = ct p))
    (h2 : ∀ s, st' s ≤ 2) (h3 : ∀ s, s < m → st' s = 2 → st s = 2 ∧ ri s < rl_G ct g iv (rc s) (L (rc s))) :
    rl_W n c m iv' ct' g st' sd rc si ri := by
  obtain ⟨hb, hS, hM, B, hB, cB⟩ := hW
  have hBL : rl_le n B L := by
    refine hL.2.2 B (fun p hp => ?_) cB
    have := hB p hp
    unfold rl_tp
    split <;> omega
  have hB' : ∀ p, p < n → B p < ct' p := by
    intro p hp
    have e1 := hB p hp
    have e2 := hBL p hp
    by_cases e : L p < ct p
    · have := ((h1 p hp).1 e).2; omega
    · have := ((h1 p hp).2 e).2; omega
  have hG : ∀ p, p < n → rl_G ct' g iv' p (B p) = rl_G ct g iv p (B p) := by
    intro p hp
    rw [rl_G_in (hB' p hp), rl_G_in (hB p hp)]
  refine ⟨hb, fun p hp => ?_, ⟨fun s => ⟨h2 s, (hM.1 s).2⟩, fun s hs e2 => ?_⟩, B, hB', fun s hs e2 hr => ?_⟩
  · obtain ⟨a1, a2, a3, a4, a5⟩ := hS p hp
    by_cases e : L p < ct p
    · obtain ⟨b1, b2⟩ := (h1 p hp).1 e
      rw [b1, b2]
      refine ⟨by omega, by omega, fun j k hj hk => a3 j k hj (by omega), fun k hk => ?_, ?_⟩
      · by_cases q : k = L p
        · rw [q]; exact Nat.le_refl _
        · exact Nat.le_of_lt (a3 k (L p) (by omega) e)
      · have := a4 _ e; omega
    · obtain ⟨b1, b2⟩ := (h1 p hp).2 e
      rw [b1, b2]
      exact ⟨a1, a2, a3, a4, a5⟩
  · obtain ⟨d1, d2⟩ := h3 s hs e2
    have hrc := (hM.1 s).2.2.1
    by_cases e : L (rc s) < ct (rc s)
    · rw [rl_G_in e] at d2
      rw [((h1 _ hrc).1 e).1]
      omega
    · rw [rl_G_now e] at d2
      rw [((h1 _ hrc).2 e).1]
      omega
  · have h := hM.1 s
    have hr' : ri s < rl_G ct' g iv' (rc s) (B (rc s)) := hr
    show si s < rl_G ct' g iv' (sd s) (B (sd s))
    rw [hG _ h.2.2.1] at hr'
    rw [hG _ h.2.1]
    exact cB s hs (h3 s hs e2).1 hr'
/-- what no line needs is dropped: the line of all stays -/
theorem rl_W_reclaim (hW : rl_W n c m iv ct g st sd rc si ri) {T : Int32} {L : Nat → Nat}
    (hL : rl_IsL n (rl_tp ct T) (rl_C m iv ct g st sd rc si ri) L) (hT : ∀ p, p < n → L p < ct p) {ct' : Nat → Nat} {g' f : Nat → Nat → Nat}
    (hc : ∀ p, p < n → ct' p ≤ ct p) (hf : ∀ p, p < n → ∀ j, j < ct' p → f p j < ct p ∧ g' p j = g p (f p j))
    (hm : ∀ p, p < n → ∀ j k, j < k → k < ct' p → f p j < f p k) (hx : ∀ p, p < n → ∃ j, j < ct' p ∧ f p j = L p) :
    rl_W n c m iv ct' g' st sd rc si ri := by
  obtain ⟨hb, hS, hM, _⟩ := hW
  have hx' : ∀ p, ∃ j, p < n → (j < ct' p ∧ f p j = L p) := by
    intro p
    by_cases e : p < n
    · obtain ⟨j, hj⟩ := hx p e
      exact ⟨j, fun _ => hj⟩
    · exact ⟨0, fun z => absurd z e⟩
  obtain ⟨B, hB⟩ := Classical.axiomOfChoice hx'
  have hG : ∀ p, p < n → rl_G ct' g' iv p (B p) = rl_G ct g iv p (L p) := by
    intro p hp
    obtain ⟨e1, e2⟩ := hB p hp
    rw [rl_G_in e1, rl_G_in (hT p hp), (hf p hp _ e1).2, e2]
  refine ⟨hb, fun p hp => ?_, hM, B, fun p hp => (hB p hp).1, fun s hs e2 hr => ?_⟩
  · obtain ⟨a1, a2, a3, a4, a5⟩ := hS p hp
    obtain ⟨j0, hj0, _⟩ := hx p hp
    have h0 := hc p hp
    refine ⟨by omega, by omega, fun j k hj hk => ?_, fun k hk => ?_, a5⟩
    · rw [(hf p hp j (by omega)).2, (hf p hp k hk).2]
      exact a3 _ _ (hm p hp j k hj hk) (hf p hp k hk).1
    · rw [(hf p hp k hk).2]
      exact a4 _ (hf p hp k hk).1
  · have h := hM.1 s
    have hr' : ri s < rl_G ct' g' iv (rc s) (B (rc s)) := hr
    show si s < rl_G ct' g' iv (sd s) (B (sd s))
    rw [hG _ h.2.2.1] at hr'
    rw [hG _ h.2.1]
    exact hL.2.1 s hs e2 hr'
end
/-- sets as sums of 1 << p, by or and by plus -/
def rl_or (c : Nat → Bool) : Nat → Int32
  | 0 => 0
  | i + 1 => if c i = true then rl_or c i ||| ((1 : Int32) <<< (nI i &&& 31)) else rl_or c i
def rl_ad (c : Nat → Bool) : Nat → Int32
  | 0 => 0
  | i + 1 => if c i = true then rl_ad c i + ((1 : Int32) <<< (nI i &&& 31)) else rl_ad c i
theorem rl_or_t {c : Nat → Bool} {i : Nat} (h : c i = true) : rl_or c (i + 1) = rl_or c i ||| ((1 : Int32) <<< (nI i &&& 31)) := if_pos h
theorem rl_or_f {c : Nat → Bool} {i : Nat} (h : ¬ c i = true) : rl_or c (i + 1) = rl_or c i := if_neg h
theorem rl_ad_t {c : Nat → Bool} {i : Nat} (h : c i = true) : rl_ad c (i + 1) = rl_ad c i + ((1 : Int32) <<< (nI i &&& 31)) := if_pos h
theorem rl_ad_f {c : Nat → Bool} {i : Nat} (h : ¬ c i = true) : rl_ad c (i + 1) = rl_ad c i := if_neg h
/-- the set of four flags -/
def rl_s4 (a b d e : Bool) : Int32 := nI ((if a then 1 else 0) + (if b then 2 else 0) + (if d then 4 else 0) + (if e then 8 else 0))
theorem rl_d0 : ∀ a : Bool, (if a = true then (0 : Int32) ||| ((1 : Int32) <<< (nI 0 &&& 31)) else 0) = rl_s4 a false false false ∧ (if a = true then (0 : Int32) + ((1 : Int32) <<< (nI 0 &&& 31)) else 0) = rl_s4 a false false false := by decide +kernel
theorem rl_d1 : ∀ a b : Bool, (if b = true then rl_s4 a false false false ||| ((1 : Int32) <<< (nI 1 &&& 31)) else rl_s4 a false false false) = rl_s4 a b false false ∧ (if b = true then rl_s4 a false false false + ((1 : Int32) <<< (nI 1 &&& 31)) else rl_s4 a false false false) = rl_s4 a b false false := by decide +kernel
theorem rl_d2 : ∀ a b d : Bool, (if d = true then rl_s4 a b false false ||| ((1 : Int32) <<< (nI 2 &&& 31)) else rl_s4 a b false false) = rl_s4 a b d false ∧ (if d = true then rl_s4 a b false false + ((1 : Int32) <<< (nI 2 &&& 31)) else rl_s4 a b false false) = rl_s4 a b d false := by decide +kernel
theorem rl_d3 : ∀ a b d e : Bool, (if e = true then rl_s4 a b d false ||| ((1 : Int32) <<< (nI 3 &&& 31)) else rl_s4 a b d false) = rl_s4 a b d e ∧ (if e = true then rl_s4 a b d false + ((1 : Int32) <<< (nI 3 &&& 31)) else rl_s4 a b d false) = rl_s4 a b d e := by decide +kernel
/-- the flags below i -/
def rl_fl (c : Nat → Bool) (i p : Nat) : Bool := c p && decide (p < i)
theorem rl_o1 (c : Nat → Bool) : rl_or c 1 = rl_s4 (c 0) false false false ∧ rl_ad c 1 = rl_s4 (c 0) false false false := rl_d0 (c 0)
theorem rl_o2 (c : Nat → Bool) : rl_or c 2 = rl_s4 (c 0) (c 1) false false ∧ rl_ad c 2 = rl_s4 (c 0) (c 1) false false := by
  have h := rl_d1 (c 0) (c 1)
  rw [← (rl_o1 c).1] at h
  refine ⟨h.1, ?_⟩
  have h := rl_d1 (c 0) (c 1)
  rw [← (rl_o1 c).2] at h
  exact h.2
theorem rl_o3 (c : Nat → Bool) : rl_or c 3 = rl_s4 (c 0) (c 1) (c 2) false ∧ rl_ad c 3 = rl_s4 (c 0) (c 1) (c 2) false := by
  have h := rl_d2 (c 0) (c 1) (c 2)
  rw [← (rl_o2 c).1] at h
  refine ⟨h.1, ?_⟩
  have h := rl_d2 (c 0) (c 1) (c 2)
  rw [← (rl_o2 c).2] at h
  exact h.2
theorem rl_o4 (c : Nat → Bool) : rl_or c 4 = rl_s4 (c 0) (c 1) (c 2) (c 3) ∧ rl_ad c 4 = rl_s4 (c 0) (c 1) (c 2) (c 3) := by
  have h := rl_d3 (c 0) (c 1) (c 2) (c 3)
  rw [← (rl_o3 c).1] at h
  refine ⟨h.1, ?_⟩
  have h := rl_d3 (c 0) (c 1) (c 2) (c 3)
  rw [← (rl_o3 c).2] at h
  exact h.2
theorem rl_orad (c : Nat → Bool) {n : Nat} (h2 : 2 ≤ n) (h4 : n ≤ 4) : rl_or c n = rl_ad c n := by
  have : n = 2 ∨ n = 3 ∨ n = 4 := by omega
  rcases this with e | e | e <;> subst e
  · rw [(rl_o2 c).1, (rl_o2 c).2]
  · rw [(rl_o3 c).1, (rl_o3 c).2]
  · rw [(rl_o4 c).1, (rl_o4 c).2]
theorem rl_b0 : ∀ b d e : Bool, ¬ (rl_s4 true b d e &&& ((1 : Int32) <<< (nI 0 &&& 31))) = 0 := by decide +kernel
theorem rl_b1 : ∀ b d e : Bool, ¬ (rl_s4 b true d e &&& ((1 : Int32) <<< (nI 1 &&& 31))) = 0 := by decide +kernel
theorem rl_b2 : ∀ b d e : Bool, ¬ (rl_s4 b d true e &&& ((1 : Int32) <<< (nI 2 &&& 31))) = 0 := by decide +kernel
theorem rl_b3 : ∀ b d e : Bool, ¬ (rl_s4 b d e true &&& ((1 : Int32) <<< (nI 3 &&& 31))) = 0 := by decide +kernel
theorem rl_bit (c : Nat → Bool) {n p : Nat} (h2 : 2 ≤ n) (h4 : n ≤ 4) (hp : p < n) (h : c p = true) : ¬ (rl_or c n &&& ((1 : Int32) <<< (nI p &&& 31))) = 0 := by
  have e1 : n = 2 ∨ n = 3 ∨ n = 4 := by omega
  have e2 : p = 0 ∨ p = 1 ∨ p = 2 ∨ p = 3 := by omega
  rcases e2 with e | e | e | e <;> subst e
  · rcases e1 with e | e | e <;> subst e
    · rw [(rl_o2 c).1, h]; exact rl_b0 _ _ _
    · rw [(rl_o3 c).1, h]; exact rl_b0 _ _ _
    · rw [(rl_o4 c).1, h]; exact rl_b0 _ _ _
  · rcases e1 with e | e | e <;> subst e
    · rw [(rl_o2 c).1, h]; exact rl_b1 _ _ _
    · rw [(rl_o3 c).1, h]; exact rl_b1 _ _ _
    · rw [(rl_o4 c).1, h]; exact rl_b1 _ _ _
  · rcases e1 with e | e | e <;> subst e
    · omega
    · rw [(rl_o3 c).1, h]; exact rl_b2 _ _ _
    · rw [(rl_o4 c).1, h]; exact rl_b2 _ _ _
  · rcases e1 with e | e | e <;> subst e
    · omega
    · omega
    · rw [(rl_o4 c).1, h]; exact rl_b3 _ _ _
theorem rl_all2 : ∀ a b : Bool, nI 3 &&& rl_s4 a b false false = rl_s4 a b false false := by decide +kernel
theorem rl_all3 : ∀ a b d : Bool, nI 7 &&& rl_s4 a b d false = rl_s4 a b d false := by decide +kernel
theorem rl_all4 : ∀ a b d e : Bool, nI 15 &&& rl_s4 a b d e = rl_s4 a b d e := by decide +kernel
theorem rl_allb : ∀ n p : Fin 5, 2 ≤ n.val → p.val < n.val → ¬ (nI (2 ^ n.val - 1) &&& ((1 : Int32) <<< (nI p.val &&& 31))) = 0 := by decide +kernel
/-- the set of all holds those that are down, and every process -/
theorem rl_all (c : Nat → Bool) {n : Nat} (h2 : 2 ≤ n) (h4 : n ≤ 4) : nI (2 ^ n - 1) &&& rl_or c n = rl_or c n := by
  have : n = 2 ∨ n = 3 ∨ n = 4 := by omega
  rcases this with e | e | e <;> subst e
  · rw [(rl_o2 c).1]; exact rl_all2 _ _
  · rw [(rl_o3 c).1]; exact rl_all3 _ _ _
  · rw [(rl_o4 c).1]; exact rl_all4 _ _ _ _
theorem rl_allp {n p : Nat} (h2 : 2 ≤ n) (h4 : n ≤ 4) (hp : p < n) : ¬ (nI (2 ^ n - 1) &&& ((1 : Int32) <<< (nI p &&& 31))) = 0 :=
  rl_allb ⟨n, by omega⟩ ⟨p, by omega⟩ h2 hp
theorem rl_1n {n : Nat} (h2 : 2 ≤ n) (h4 : n ≤ 4) : (1 : Int32) <<< (nI n &&& 31) = nI (2 ^ n) := by
  have : n = 2 ∨ n = 3 ∨ n = 4 := by omega
  rcases this with e | e | e <;> subst e <;> decide +kernel
end
section
/-- the greatest place below N that holds -/
theorem rl_last (P : Nat → Prop) : ∀ N, (∃ k, k < N ∧ P k) → ∃ k, k < N ∧ P k ∧ ∀ j, j < N → P j → j ≤ k := by
  intro N
  induction N with
  | zero => rintro ⟨k, hk, _⟩; omega
  | succ N ih =>
    rintro ⟨k, hk, pk⟩
    by_cases e : P N
    · exact ⟨N, by omega, e, fun j hj _ => by omega⟩
    · have hk' : k < N := by
        by_cases q : k = N
        · rw [q] at pk; exact absurd pk e
        · omega
      obtain ⟨i, hi, pi, hm⟩ := ih ⟨k, hk', pk⟩
      refine ⟨i, by omega, pi, fun j hj pj => ?_⟩
      by_cases q : j = N
      · rw [q] at pj; exact absurd pj e
      · exact hm j (by omega) pj
theorem rl_dec_pos {t κ : Nat → Nat} {i : Nat} (h : 0 < κ i) : rl_cd t (rl_u κ i (κ i - 1)) (i + 1) + 1 = rl_cd t κ (i + 1) := by
  have h1 : rl_cd t (rl_u κ i (κ i - 1)) i = rl_cd t κ i := rl_cd_eq i (fun p hp => rl_un (by omega))
  show rl_cd t (rl_u κ i (κ i - 1)) i * (t i + 1) + rl_u κ i (κ i - 1) i + 1 = rl_cd t κ i * (t i + 1) + κ i
  rw [h1, rl_us]
  omega
theorem rl_dec_zero {t κ κ' : Nat → Nat} {i : Nat} (h : κ i = 0) (ht : κ' i = t i) (hc : rl_cd t κ' i + 1 = rl_cd t κ i) : rl_cd t κ' (i + 1) + 1 = rl_cd t κ (i + 1) := by
  show rl_cd t κ' i * (t i + 1) + κ' i + 1 = rl_cd t κ i * (t i + 1) + κ i
  rw [← hc, Nat.succ_mul, h, ht]
  omega
theorem rl_cd_pos0 {t κ : Nat → Nat} {i : Nat} (h : κ i = 0) (hc : 0 < rl_cd t κ (i + 1)) : 0 < rl_cd t κ i := by
  have hc' : 0 < rl_cd t κ i * (t i + 1) + κ i := hc
  by_cases e : rl_cd t κ i = 0
  · rw [e, h, Nat.zero_mul] at hc'; omega
  · omega
section
variable {n c m : Nat} {iv ct st sd rc si ri : Nat → Nat} {g : Nat → Nat → Nat}
theorem rl_C_ext (hM : rl_Msg n m iv st sd rc si ri) {a b : Nat → Nat} (h : ∀ p, p < n → a p = b p) (ha : rl_C m iv ct g st sd rc si ri a) : rl_C m iv ct g st sd rc si ri b := by
  intro s hs h2 hr
  have hs' := hM.1 s
  have hr' : ri s < rl_G ct g iv (rc s) (b (rc s)) := hr
  show si s < rl_G ct g iv (sd s) (b (sd s))
  rw [← h _ hs'.2.2.1] at hr'
  rw [← h _ hs'.2.1]
  exact ha s hs h2 hr'
/-- an orphan lowers its receiver -/
theorem rl_lowk (hS : rl_Sto n c iv ct g) (hM : rl_Msg n m iv st sd rc si ri) {T : Int32} {L κ : Nat → Nat}
    (hL : rl_IsL n (rl_tp ct T) (rl_C m iv ct g st sd rc si ri) L) (hκ : rl_le n κ (rl_tp ct T)) (hLκ : rl_le n L κ) {s : Nat} (hs : s < m) (h2 : st s = 2)
    (hr : ri s < rl_G ct g iv (rc s) (κ (rc s))) (hsi : ¬ si s < rl_G ct g iv (sd s) (κ (sd s))) :
    ∃ k, k < ct (rc s) ∧ g (rc s) k ≤ ri s ∧ (∀ j, j < ct (rc s) → g (rc s) j ≤ ri s → j ≤ k) ∧
      rl_le n (rl_u κ (rc s) k) (rl_tp ct T) ∧ rl_le n L (rl_u κ (rc s) k) ∧ rl_sum (rl_u κ (rc s) k) n < rl_sum κ n := by
  obtain ⟨h3, h4⟩ := rl_low hS hM hL hκ hLκ hs h2 hsi
  obtain ⟨k, hk, hg, hm⟩ := rl_last (fun j => g (rc s) j ≤ ri s) (ct (rc s)) ⟨L (rc s), h3, h4⟩
  have hrc := (hM.1 s).2.2.1
  have hkt := hκ (rc s) hrc
  have htp := rl_tp_le ct T (rc s)
  have hlt : k < κ (rc s) := by
    by_cases e : k < κ (rc s)
    · exact e
    · exfalso
      have h5 : rl_G ct g iv (rc s) (κ (rc s)) ≤ rl_G ct g iv (rc s) k := rl_G_le hS hrc (by omega) (by omega)
      rw [rl_G_in hk] at h5
      have hg' : g (rc s) k ≤ ri s := hg
      omega
  have hle : rl_le n (rl_u κ (rc s) k) κ := by
    intro p hp
    by_cases e : p = rc s
    · rw [e, rl_us]; omega
    · rw [rl_un e]; exact Nat.le_refl _
  refine ⟨k, hk, hg, hm, fun p hp => Nat.le_trans (hle p hp) (hκ p hp), fun p hp => ?_, rl_sum_lt n hle (rc s) hrc (by rw [rl_us]; exact hlt)⟩
  by_cases e : p = rc s
  · rw [e, rl_us]; exact hm _ h3 h4
  · rw [rl_un e]; exact hLκ p hp
theorem rl_Y_exit {T : Int32} {L κ : Nat → Nat} (hL : rl_IsL n (rl_tp ct T) (rl_C m iv ct g st sd rc si ri) L) (hκ : rl_le n κ (rl_tp ct T))
    (hc : rl_cd (rl_tp ct T) L n ≤ rl_cd (rl_tp ct T) κ n) (hC : rl_C m iv ct g st sd rc si ri κ) : ∀ p, p < n → κ p = L p := by
  have h1 := hL.2.2 κ hκ hC
  have h2 := rl_cd_mono (t := rl_tp ct T) n h1
  exact rl_cd_inj n hκ hL.1 (Nat.le_antisymm h2 hc)
theorem rl_Y_step (hM : rl_Msg n m iv st sd rc si ri) {T : Int32} {L κ : Nat → Nat} (hL : rl_IsL n (rl_tp ct T) (rl_C m iv ct g st sd rc si ri) L)
    (hκ : rl_le n κ (rl_tp ct T)) (hc : rl_cd (rl_tp ct T) L n ≤ rl_cd (rl_tp ct T) κ n) (hC : ¬ rl_C m iv ct g st sd rc si ri κ) :
    rl_cd (rl_tp ct T) L n < rl_cd (rl_tp ct T) κ n := by
  by_cases e : rl_cd (rl_tp ct T) L n = rl_cd (rl_tp ct T) κ n
  · exact absurd (rl_C_ext hM (rl_cd_inj n hL.1 hκ e) hL.2.1) hC
  · omega
/-- nothing is stored between two neighbours -/
theorem rl_gap (hS : rl_Sto n c iv ct g) {p k i : Nat} (hp : p < n) (hk : k < ct p) (h1 : rl_G ct g iv p k < i) (h2 : i < rl_G ct g iv p (k + 1)) : ¬ ∃ j, j < ct p ∧ g p j = i := by
  rintro ⟨j, hj, e⟩
  have e' : rl_G ct g iv p j = i := by rw [rl_G_in hj, e]
  by_cases l : j ≤ k
  · have := rl_G_le hS hp l (by omega)
    omega
  · have := rl_G_le hS hp (j := k + 1) (k := j) (by omega) (by omega)
    omega
theorem rl_gap0 (hS : rl_Sto n c iv ct g) {p i : Nat} (hp : p < n) (h2 : i < rl_G ct g iv p 0) : ¬ ∃ j, j < ct p ∧ g p j = i := by
  rintro ⟨j, hj, e⟩
  have e' : rl_G ct g iv p j = i := by rw [rl_G_in hj, e]
  have := rl_G_le hS hp (j := 0) (k := j) (by omega) (by omega)
  omega
end
end
section
/-- f lists, rising, the places below k that are needed -/
def rl_Sub (nd : Nat → Bool) (k kept : Nat) (f : Nat → Nat) : Prop :=
  (∀ j, j < kept → f j < k ∧ nd (f j) = true) ∧ (∀ i j, i < j → j < kept → f i < f j) ∧ (∀ i, i < k → nd i = true → ∃ j, j < kept ∧ f j = i) ∧ kept ≤ k
theorem rl_Sub_0 (nd : Nat → Bool) (f : Nat → Nat) : rl_Sub nd 0 0 f :=
  ⟨fun j hj => by omega, fun i j _ hj => by omega, fun i hi => by omega, Nat.le_refl _⟩
theorem rl_Sub_t {nd : Nat → Bool} {k kept : Nat} {f : Nat → Nat} (h : rl_Sub nd k kept f) (e : nd k = true) : rl_Sub nd (k + 1) (kept + 1) (rl_u f kept k) := by
  obtain ⟨h1, h2, h3, h4⟩ := h
  refine ⟨fun j hj => ?_, fun i j hij hj => ?_, fun i hi hn => ?_, by omega⟩
  · by_cases q : j = kept
    · rw [q, rl_us]; exact ⟨by omega, e⟩
    · rw [rl_un q]
      have := h1 j (by omega)
      exact ⟨by omega, this.2⟩
  · have hi : i ≠ kept := by omega
    rw [rl_un hi]
    by_cases q : j = kept
    · rw [q, rl_us]; exact (h1 i (by omega)).1
    · rw [rl_un q]; exact h2 i j hij (by omega)
  · by_cases q : i = k
    · exact ⟨kept, by omega, by rw [rl_us, q]⟩
    · obtain ⟨j, hj, ej⟩ := h3 i (by omega) hn
      refine ⟨j, by omega, ?_⟩
      rw [rl_un (by omega)]
      exact ej
theorem rl_Sub_f {nd : Nat → Bool} {k kept : Nat} {f : Nat → Nat} (h : rl_Sub nd k kept f) (e : ¬ nd k = true) : rl_Sub nd (k + 1) kept f := by
  obtain ⟨h1, h2, h3, h4⟩ := h
  refine ⟨fun j hj => ?_, h2, fun i hi hn => ?_, by omega⟩
  · have := h1 j hj
    exact ⟨by omega, this.2⟩
  · by_cases q : i = k
    · rw [q] at hn; exact absurd hn e
    · exact h3 i (by omega) hn
/-- place k of p is in a line of a set below J that holds D -/
def rl_Nd (D : Int32) (Ls : Int32 → Nat → Nat) (J p k : Nat) : Prop := ∃ j, j < J ∧ (nI j &&& D) = D ∧ Ls (nI j) p = k
theorem rl_Nd_0 {D : Int32} {Ls : Int32 → Nat → Nat} {p k : Nat} : ¬ rl_Nd D Ls 0 p k := by
  rintro ⟨j, hj, _⟩; omega
theorem rl_Nd_t {D : Int32} {Ls : Int32 → Nat → Nat} {J p k : Nat} (h : (nI J &&& D) = D) : rl_Nd D Ls (J + 1) p k ↔ rl_Nd D Ls J p k ∨ Ls (nI J) p = k := by
  constructor
  · rintro ⟨j, hj, h1, h2⟩
    by_cases e : j = J
    · rw [e] at h2; exact Or.inr h2
    · exact Or.inl ⟨j, by omega, h1, h2⟩
  · rintro (⟨j, hj, h1, h2⟩ | h2)
    · exact ⟨j, by omega, h1, h2⟩
    · exact ⟨J, by omega, h, h2⟩
theorem rl_Nd_f {D : Int32} {Ls : Int32 → Nat → Nat} {J p k : Nat} (h : ¬ (nI J &&& D) = D) : rl_Nd D Ls (J + 1) p k ↔ rl_Nd D Ls J p k := by
  constructor
  · rintro ⟨j, hj, h1, h2⟩
    by_cases e : j = J
    · rw [e] at h1; exact absurd h1 h
    · exact ⟨j, by omega, h1, h2⟩
  · rintro ⟨j, hj, h1, h2⟩
    exact ⟨j, by omega, h1, h2⟩
/-- the receipt of slot s lies below the lines (x: their numbers) of all sets below J that hold D -/
def rl_Se (D : Int32) (x : Int32 → Nat → Nat) (st rc ri : Nat → Nat) (J s : Nat) : Prop := st s = 2 ∧ ∀ j, j < J → (nI j &&& D) = D → ri s < x (nI j) (rc s)
theorem rl_Se_0 {D : Int32} {x : Int32 → Nat → Nat} {st rc ri : Nat → Nat} {s : Nat} : rl_Se D x st rc ri 0 s ↔ st s = 2 :=
  ⟨fun h => h.1, fun h => ⟨h, fun j hj => by omega⟩⟩
theorem rl_Se_t {D : Int32} {x : Int32 → Nat → Nat} {st rc ri : Nat → Nat} {J s : Nat} (h : (nI J &&& D) = D) :
    rl_Se D x st rc ri (J + 1) s ↔ rl_Se D x st rc ri J s ∧ ri s < x (nI J) (rc s) := by
  constructor
  · rintro ⟨h1, h2⟩
    exact ⟨⟨h1, fun j hj hd => h2 j (by omega) hd⟩, h2 J (by omega) h⟩
  · rintro ⟨⟨h1, h2⟩, h3⟩
    refine ⟨h1, fun j hj hd => ?_⟩
    by_cases e : j = J
    · rw [e]; exact h3
    · exact h2 j (by omega) hd
theorem rl_Se_f {D : Int32} {x : Int32 → Nat → Nat} {st rc ri : Nat → Nat} {J s : Nat} (h : ¬ (nI J &&& D) = D) :
    rl_Se D x st rc ri (J + 1) s ↔ rl_Se D x st rc ri J s := by
  constructor
  · rintro ⟨h1, h2⟩
    exact ⟨h1, fun j hj hd => h2 j (by omega) hd⟩
  · rintro ⟨h1, h2⟩
    refine ⟨h1, fun j hj hd => ?_⟩
    by_cases e : j = J
    · rw [e] at hd; exact absurd hd h
    · exact h2 j (by omega) hd
end
section
/-- the first i cells are a's, the others b's -/
def rl_mix (i : Nat) (a b : Nat → Int32) : Nat → Int32 := fun q => if q < i then a q else b q
theorem rl_mix_lt {i q : Nat} {a b : Nat → Int32} (h : q < i) : rl_mix i a b q = a q := if_pos h
theorem rl_mix_ge {i q : Nat} {a b : Nat → Int32} (h : i ≤ q) : rl_mix i a b q = b q := if_neg (by omega)
theorem rl_mix_0 (a b : Nat → Int32) : rl_mix 0 a b = b := funext fun q => rl_mix_ge (by omega)
theorem rl_mix_s {i : Nat} {a b : Nat → Int32} {x : Int32} (h : x = a i) : upd (rl_mix i a b) i x = rl_mix (i + 1) a b := by
  funext q
  by_cases e : q = i
  · rw [e, pk_us, rl_mix_lt (by omega), h]
  · rw [pk_un e]
    by_cases l : q < i
    · rw [rl_mix_lt l, rl_mix_lt (by omega)]
    · rw [rl_mix_ge (by omega), rl_mix_ge (by omega)]
theorem rl_mix_k {i : Nat} {a b : Nat → Int32} (h : a i = b i) : rl_mix i a b = rl_mix (i + 1) a b := by
  funext q
  by_cases e : q = i
  · rw [e, rl_mix_ge (Nat.le_refl i), rl_mix_lt (Nat.lt_succ_self i), h]
  · by_cases l : q < i
    · rw [rl_mix_lt l, rl_mix_lt (by omega)]
    · rw [rl_mix_ge (by omega), rl_mix_ge (by omega)]
theorem rl_uI {F : Nat → Int32} {f : Nat → Nat} (h : ∀ p, F p = nI (f p)) (k v : Nat) : ∀ p, upd F k (nI v) p = nI (rl_u f k v p) := by
  intro p
  by_cases e : p = k
  · rw [e, pk_us, rl_us]
  · rw [pk_un e, rl_un e, h]
/-- the arrays that both sides keep alike, and the component's store, as naturals -/
def rl_A (n c m : Nat) (iv ct : Nat → Nat) (g : Nat → Nat → Nat) (st sd rc si ri : Nat → Nat) (IV CT NB ST SD RC SI RI : Nat → Int32) : Prop :=
  rl_W n c m iv ct g st sd rc si ri ∧ (∀ p, IV p = nI (iv p)) ∧ (∀ p, CT p = nI (ct p)) ∧ (∀ p, p < n → ∀ k, k < ct p → NB (p * 8 + k) = nI (g p k)) ∧
    (∀ s, ST s = nI (st s)) ∧ (∀ s, SD s = nI (sd s)) ∧ (∀ s, RC s = nI (rc s)) ∧ (∀ s, SI s = nI (si s)) ∧ (∀ s, RI s = nI (ri s))
/-- what the tests of a message against a line need -/
def rl_Q (n m : Nat) (sd rc si ri : Nat → Nat) (SD RC SI RI : Nat → Int32) : Prop :=
  n ≤ 4 ∧ m ≤ 16 ∧ (∀ s, sd s < n ∧ rc s < n ∧ si s ≤ 99 ∧ ri s ≤ 99) ∧ (∀ s, SD s = nI (sd s)) ∧ (∀ s, RC s = nI (rc s)) ∧ (∀ s, SI s = nI (si s)) ∧ (∀ s, RI s = nI (ri s))
theorem rl_Q_of {n c m : Nat} {iv ct st sd rc si ri : Nat → Nat} {g : Nat → Nat → Nat} {IV CT NB ST SD RC SI RI : Nat → Int32}
    (h : rl_A n c m iv ct g st sd rc si ri IV CT NB ST SD RC SI RI) : rl_Q n m sd rc si ri SD RC SI RI := by
  obtain ⟨hW, _, _, _, _, h1, h2, h3, h4⟩ := h
  exact ⟨hW.1.1.2, hW.1.2.2.2, fun s => (hW.2.2.1.1 s).2, h1, h2, h3, h4⟩
/-- the reference's table holds what the component stores -/
def rl_Tab (n : Nat) (ct : Nat → Nat) (g : Nat → Nat → Nat) (SV TB TS : Nat → Int32) : Prop :=
  (∀ p, p < n → ∀ i, i < 100 → (¬ TB (p * 100 + i) = 0 ↔ ∃ k, k < ct p ∧ g p k = i)) ∧ (∀ i, n * 100 ≤ i → TB i = 0) ∧
    (∀ p, p < n → ∀ k, k < ct p → SV (p * 8 + k) = TS (p * 100 + g p k))
def rl_R (n c m : Nat) (iv ct : Nat → Nat) (g : Nat → Nat → Nat) (st sd rc si ri : Nat → Nat) (vX vY IV U CT NB SV TB TS ST SD RC SI RI : Nat → Int32) : Prop :=
  rl_A n c m iv ct g st sd rc si ri IV CT NB ST SD RC SI RI ∧ rl_Tab n ct g SV TB TS ∧ (∀ p, U p = 0 ∨ U p = 1) ∧ (∀ p, p < n → ¬ U p = 0 → vX p = vY p)
theorem rl_cn400 {F : Nat → Bool} {n : Nat} (h4 : n ≤ 4) (h : ∀ i, n * 100 ≤ i → ¬ F i = true) : rl_cn F 400 = rl_sum (fun q => rl_cn (fun i => F (q * 100 + i)) 100) n := by
  have e : 400 = n * 100 + (400 - n * 100) := by omega
  have h1 : rl_cn F (n * 100 + (400 - n * 100)) = rl_cn F (n * 100) + rl_cn (fun i => F (n * 100 + i)) (400 - n * 100) := rl_cn_add F (n * 100) _
  have h2 : rl_cn (fun i => F (n * 100 + i)) (400 - n * 100) = 0 := rl_cn_0 _ (fun i _ => h _ (by omega))
  have h3 := rl_cn_blk F n
  rw [← e] at h1
  rw [h1, h2, h3]
  rfl
section
variable {n c m : Nat} {iv ct st sd rc si ri : Nat → Nat} {g : Nat → Nat → Nat}
/-- how many of p the reference counts as stored, and how many it drops -/
theorem rl_cntS (hS : rl_Sto n c iv ct g) {TB : Nat → Int32} {p : Nat} (hp : p < n) (hT : ∀ i, i < 100 → (¬ TB (p * 100 + i) = 0 ↔ ∃ k, k < ct p ∧ g p k = i)) :
    rl_cn (fun i => decide (¬ TB (p * 100 + i) = 0)) 100 = ct p := by
  obtain ⟨_, _, h3, h4, h5⟩ := hS p hp
  refine rl_cn_enum 100 (ct p) (h := g p) h3 (fun k hk => ?_) (fun i hi => ?_)
  · have := h4 k hk; omega
  · rw [decide_eq_true_iff]
    exact hT i hi
theorem rl_cntB (hS : rl_Sto n c iv ct g) {TB : Nat → Int32} {p k : Nat} (hp : p < n) (hk : k < ct p) (hT : ∀ i, i < 100 → (¬ TB (p * 100 + i) = 0 ↔ ∃ k, k < ct p ∧ g p k = i)) :
    rl_cn (fun i => decide (¬ TB (p * 100 + i) = 0)) (g p k) = k := by
  obtain ⟨_, _, h3, h4, h5⟩ := hS p hp
  have h6 := h4 k hk
  refine rl_cn_enum (g p k) k (h := g p) (fun i j hij hj => h3 i j hij (by omega)) (fun j hj => h3 j k hj hk) (fun i hi => ?_)
  rw [decide_eq_true_iff, hT i (by omega)]
  constructor
  · rintro ⟨j, hj, e⟩
    refine ⟨j, ?_, e⟩
    rcases Nat.lt_trichotomy j k with l | l | l
    · exact l
    · rw [l] at e; omega
    · have := h3 k j l hj; omega
  · rintro ⟨j, hj, e⟩
    exact ⟨j, by omega, e⟩
theorem rl_cntD (hS : rl_Sto n c iv ct g) {TB KP : Nat → Int32} {p kept : Nat} {f : Nat → Nat} (hp : p < n) (hT : ∀ i, i < 100 → (¬ TB (p * 100 + i) = 0 ↔ ∃ k, k < ct p ∧ g p k = i))
    (hK : ∀ k, k < ct p → (¬ KP (p * 100 + g p k) = 0 ↔ ∃ j, j < kept ∧ f j = k)) (hf : ∀ j, j < kept → f j < ct p) (hm : ∀ i j, i < j → j < kept → f i < f j) :
    rl_cn (fun i => decide (¬ TB (p * 100 + i) = 0) && decide (KP (p * 100 + i) = 0)) 100 = ct p - kept := by
  have h1 := rl_cntS hS hp hT
  have h2 := rl_cn_split (fun i => decide (¬ TB (p * 100 + i) = 0)) (fun i => decide (¬ KP (p * 100 + i) = 0)) 100
  have h3 : rl_cn (fun i => decide (¬ TB (p * 100 + i) = 0) && decide (¬ KP (p * 100 + i) = 0)) 100 = kept := by
    obtain ⟨_, _, a3, a4, a5⟩ := hS p hp
    refine rl_cn_enum 100 kept (h := fun j => g p (f j)) (fun i j hij hj => a3 _ _ (hm i j hij hj) (hf j hj)) (fun k hk => ?_) (fun i hi => ?_)
    · have := a4 _ (hf k hk); omega
    · rw [Bool.and_eq_true, decide_eq_true_iff, decide_eq_true_iff, hT i hi]
      constructor
      · rintro ⟨⟨k, hk, e⟩, hn⟩
        rw [← e] at hn
        obtain ⟨j, hj, ej⟩ := (hK k hk).mp hn
        exact ⟨j, hj, by rw [ej, e]⟩
      · rintro ⟨j, hj, e⟩
        have e' : g p (f j) = i := e
        refine ⟨⟨f j, hf j hj, e'⟩, ?_⟩
        rw [← e']
        exact (hK _ (hf j hj)).mpr ⟨j, hj, rfl⟩
  have h4 : rl_cn (fun i => decide (¬ TB (p * 100 + i) = 0) && decide (KP (p * 100 + i) = 0)) 100 = rl_cn (fun i => decide (¬ TB (p * 100 + i) = 0) && !decide (¬ KP (p * 100 + i) = 0)) 100 := by
    refine rl_cn_eq 100 (fun i _ => ?_)
    by_cases a : TB (p * 100 + i) = 0 <;> by_cases b : KP (p * 100 + i) = 0 <;> simp [a, b]
  rw [h4]
  omega
end
/-- the same of the reference's side -/
def rl_AY (n c m : Nat) (iv ct : Nat → Nat) (g : Nat → Nat → Nat) (st sd rc si ri : Nat → Nat) (IV TB ST SD RC SI RI : Nat → Int32) : Prop :=
  rl_W n c m iv ct g st sd rc si ri ∧ (∀ p, IV p = nI (iv p)) ∧ (∀ p, p < n → ∀ i, i < 100 → (¬ TB (p * 100 + i) = 0 ↔ ∃ k, k < ct p ∧ g p k = i)) ∧
    (∀ s, ST s = nI (st s)) ∧ (∀ s, SD s = nI (sd s)) ∧ (∀ s, RC s = nI (rc s)) ∧ (∀ s, SI s = nI (si s)) ∧ (∀ s, RI s = nI (ri s))
end
section
theorem rl_lt0 {a : Nat} (h : a < 2 ^ 31) : nI a < 0 ↔ False := ⟨fun z => nI_pos h z, False.elim⟩
theorem rl_0le {a : Nat} (h : a < 2 ^ 31) : (0 : Int32) ≤ nI a ↔ True := ⟨fun _ => trivial, fun _ => nI_pos' h⟩
theorem rl_eq0 {a : Nat} (h : a < 2 ^ 31) : nI a = 0 ↔ a = 0 := nI_eq (b := 0) h (by decide)
theorem rl_eq1 {a : Nat} (h : a < 2 ^ 31) : nI a = 1 ↔ a = 1 := nI_eq (b := 1) h (by decide)
theorem rl_eq2 {a : Nat} (h : a < 2 ^ 31) : nI a = 2 ↔ a = 2 := nI_eq (b := 2) h (by decide)
theorem rl_ge {x : Int32} (b : Nat) (hx : x = nI b) (hb : b < 2 ^ 31) {a : Nat} (h : a < 2 ^ 31) : x ≤ nI a ↔ b ≤ a := by
  rw [hx]; exact nI_leI hb h
theorem rl_99 {a : Nat} (h : a < 2 ^ 31) : (99 : Int32) ≤ nI a ↔ 99 ≤ a := rl_ge 99 rfl (by decide) h
theorem rl_33 {a : Nat} (h : a < 2 ^ 31) : (33 : Int32) ≤ nI a ↔ 33 ≤ a := rl_ge 33 rfl (by decide) h
theorem rl_32 {a : Nat} (h : a < 2 ^ 31) : (32 : Int32) ≤ nI a ↔ 32 ≤ a := rl_ge 32 rfl (by decide) h
theorem rl_400 {a : Nat} (h : a < 2 ^ 31) : (400 : Int32) ≤ nI a ↔ 400 ≤ a := rl_ge 400 rfl (by decide) h
theorem rl_6561 {a : Nat} (h : a < 2 ^ 31) : (6561 : Int32) ≤ nI a ↔ 6561 ≤ a := rl_ge 6561 rfl (by decide) h
theorem rl_99l {a : Nat} (h : a < 2 ^ 31) : nI a ≤ (99 : Int32) ↔ a ≤ 99 := nI_leI (b := 99) h (by decide)
theorem rl_99g {a : Nat} (h : a < 2 ^ 31) : (99 : Int32) < nI a ↔ 99 < a := nI_ltI (a := 99) (by decide) h
theorem rl_m1 (a : Nat) : nI (a + 1) + (-1) = nI a := pk_m1 a
theorem rl_m8 (a : Nat) : nI a * 8 = nI (a * 8) := pk_mul a 8
theorem rl_m100 (a : Nat) : nI a * 100 = nI (a * 100) := pk_mul a 100
theorem rl_vb0 : vp_nar .boolean 0 = 0 := by decide
theorem rl_vb1 : vp_nar .boolean 1 = 1 := by decide
theorem rl_nb01 {z : Int32} (h : z = 0 ∨ z = 1) : narrow .boolean (.int z) = .int z := by
  rcases h with rfl | rfl <;> decide
theorem rl_ne4 {a : Nat} (h : a < 2 ^ 31) : ¬ nI a = -4 := by
  intro z
  have h1 : (nI a).toInt = (-4 : Int32).toInt := by rw [z]
  rw [nI_toInt h] at h1
  have h2 : (-4 : Int32).toInt = -4 := by decide
  omega
theorem rl_10 : (1 : Int32) = 0 ↔ False := ⟨fun h => absurd h (by decide), False.elim⟩
theorem rl_n10 : (-1 : Int32) < 0 ↔ True := ⟨fun _ => trivial, fun _ => by decide⟩
theorem rl_l99 {a : Nat} (h : a < 2 ^ 31) : nI a < (99 : Int32) ↔ a < 99 := nI_ltI (b := 99) h (by decide)
end
section
section
variable {n c m : Nat} {iv ct st sd rc si ri : Nat → Nat} {g : Nat → Nat → Nat}
variable {vX IV U CT NB SV ST SD RC PL SI RI LN ND SE : Nat → Int32}
theorem rx_bad {post : Int32 → Prop} {p : Nat} (hp : p < n) (n4 : n ≤ 4) (k : post 0) : wpX_isBadProcess post (nI n, nI c, nI m, vX, IV, U, CT, NB, SV, ST, SD, RC, PL, SI, RI, LN, ND, SE) (nI p) := by
  simp (disch := omega) only [wpX_isBadProcess, hp, forall_eq, Nat.le_refl, rl_10, rl_n10, nI_leI, nI_ltI, nI_eq, vp_in_nI, nI_clamp, nI_1, nI_add, rl_lt0, rl_0le, rl_eq0, rl_eq1, rl_eq2, rl_m1, rl_m8, rl_m100, rl_vb0, rl_vb1, true_implies, forall_const, not_true_eq_false, not_false_eq_true, false_implies, and_true, true_and, implies_true, and_self]
  exact k
theorem rx_badN {post : Int32 → Prop} {x : Int32} (h : x < 0) (k : post 1) : wpX_isBadProcess post (nI n, nI c, nI m, vX, IV, U, CT, NB, SV, ST, SD, RC, PL, SI, RI, LN, ND, SE) x := by
  simp only [wpX_isBadProcess, h, forall_eq, Nat.le_refl, rl_10, rl_n10, nI_leI, nI_ltI, nI_eq, vp_in_nI, nI_clamp, nI_1, nI_add, rl_lt0, rl_0le, rl_eq0, rl_eq1, rl_eq2, rl_m1, rl_m8, rl_m100, rl_vb0, rl_vb1, true_implies, forall_const, not_true_eq_false, not_false_eq_true, false_implies, and_true, true_and, implies_true, and_self]
  exact k
theorem rx_badG {post : Int32 → Prop} {x : Int32} (h : nI n ≤ x) (k : post 1) : wpX_isBadProcess post (nI n, nI c, nI m, vX, IV, U, CT, NB, SV, ST, SD, RC, PL, SI, RI, LN, ND, SE) x := by
  have h' : ¬ x < nI n := Int32.not_lt.mpr h
  simp only [wpX_isBadProcess, h', forall_eq, Nat.le_refl, rl_10, rl_n10, nI_leI, nI_ltI, nI_eq, vp_in_nI, nI_clamp, nI_1, nI_add, rl_lt0, rl_0le, rl_eq0, rl_eq1, rl_eq2, rl_m1, rl_m8, rl_m100, rl_vb0, rl_vb1, true_implies, forall_const, not_true_eq_false, not_false_eq_true, false_implies, and_true, true_and, implies_true, and_self]
  exact ⟨fun _ => k, fun _ => k⟩
theorem rx_badS {post : Int32 → Prop} {p : Nat} (hp : p < m) (n4 : m ≤ 16) (k : post 0) : wpX_isBadSlot post (nI n, nI c, nI m, vX, IV, U, CT, NB, SV, ST, SD, RC, PL, SI, RI, LN, ND, SE) (nI p) := by
  simp (disch := omega) only [wpX_isBadSlot, hp, forall_eq, Nat.le_refl, rl_10, rl_n10, nI_leI, nI_ltI, nI_eq, vp_in_nI, nI_clamp, nI_1, nI_add, rl_lt0, rl_0le, rl_eq0, rl_eq1, rl_eq2, rl_m1, rl_m8, rl_m100, rl_vb0, rl_vb1, true_implies, forall_const, not_true_eq_false, not_false_eq_true, false_implies, and_true, true_and, implies_true, and_self]
  exact k
theorem rx_badSN {post : Int32 → Prop} {x : Int32} (h : x < 0) (k : post 1) : wpX_isBadSlot post (nI n, nI c, nI m, vX, IV, U, CT, NB, SV, ST, SD, RC, PL, SI, RI, LN, ND, SE) x := by
  simp only [wpX_isBadSlot, h, forall_eq, Nat.le_refl, rl_10, rl_n10, nI_leI, nI_ltI, nI_eq, vp_in_nI, nI_clamp, nI_1, nI_add, rl_lt0, rl_0le, rl_eq0, rl_eq1, rl_eq2, rl_m1, rl_m8, rl_m100, rl_vb0, rl_vb1, true_implies, forall_const, not_true_eq_false, not_false_eq_true, false_implies, and_true, true_and, implies_true, and_self]
  exact k
theorem rx_badSG {post : Int32 → Prop} {x : Int32} (h : nI m ≤ x) (k : post 1) : wpX_isBadSlot post (nI n, nI c, nI m, vX, IV, U, CT, NB, SV, ST, SD, RC, PL, SI, RI, LN, ND, SE) x := by
  have h' : ¬ x < nI m := Int32.not_lt.mpr h
  simp only [wpX_isBadSlot, h', forall_eq, Nat.le_refl, rl_10, rl_n10, nI_leI, nI_ltI, nI_eq, vp_in_nI, nI_clamp, nI_1, nI_add, rl_lt0, rl_0le, rl_eq0, rl_eq1, rl_eq2, rl_m1, rl_m8, rl_m100, rl_vb0, rl_vb1, true_implies, forall_const, not_true_eq_false, not_false_eq_true, false_implies, and_true, true_and, implies_true, and_self]
  exact ⟨fun _ => k, fun _ => k⟩
theorem rx_cellOf_l {post : Int32 → Prop} {p K : Nat} {gp : Nat → Nat} (hp : p < 4) (hK : K ≤ 8) (hct : CT p = nI K) (hnb : ∀ k, k < K → NB (p * 8 + k) = nI (gp k)) {x : Int32}
    (h1 : ∀ k, k < K → nI (gp k) = x → post (nI (p * 8 + k))) (h2 : (∀ k, k < K → ¬ nI (gp k) = x) → post (-4)) :
    ∀ (fu k : Nat), K < fu + k → k ≤ K → (∀ j, j < k → ¬ nI (gp j) = x) → wX_cellOf_8 post (nI p) x (nI (p * 8)) (nI n) (nI c) (nI m) vX IV U CT NB SV ST SD RC PL SI RI LN ND SE fu (nI k) := by
  intro fu
  induction fu with
  | zero => intro k q1 q2; omega
  | succ fu ih =>
    intro k q1 q2 q3
    by_cases e : K ≤ k
    · simp (disch := omega) only [wX_cellOf_8, hct, e, forall_eq, Nat.le_refl, rl_10, rl_n10, nI_leI, nI_ltI, nI_eq, vp_in_nI, nI_clamp, nI_1, nI_add, rl_lt0, rl_0le, rl_eq0, rl_eq1, rl_eq2, rl_m1, rl_m8, rl_m100, rl_vb0, rl_vb1, true_implies, forall_const, not_true_eq_false, not_false_eq_true, false_implies, and_true, true_and, implies_true, and_self]
      exact h2 (fun j hj => q3 j (by omega))
    · have hkc : k < K := by omega
      have hn := hnb k hkc
      by_cases l : nI (gp k) = x
      · simp (disch := omega) only [wX_cellOf_8, hct, e, hn, l, forall_eq, Nat.le_refl, rl_10, rl_n10, nI_leI, nI_ltI, nI_eq, vp_in_nI, nI_clamp, nI_1, nI_add, rl_lt0, rl_0le, rl_eq0, rl_eq1, rl_eq2, rl_m1, rl_m8, rl_m100, rl_vb0, rl_vb1, true_implies, forall_const, not_true_eq_false, not_false_eq_true, false_implies, and_true, true_and, implies_true, and_self]
        exact h1 k hkc l
      · simp (disch := omega) only [wX_cellOf_8, hct, e, hn, l, forall_eq, Nat.le_refl, rl_10, rl_n10, nI_leI, nI_ltI, nI_eq, vp_in_nI, nI_clamp, nI_1, nI_add, rl_lt0, rl_0le, rl_eq0, rl_eq1, rl_eq2, rl_m1, rl_m8, rl_m100, rl_vb0, rl_vb1, true_implies, forall_const, not_true_eq_false, not_false_eq_true, false_implies, and_true, true_and, implies_true, and_self]
        refine ih (k + 1) (by omega) (by omega) (fun j hj => ?_)
        by_cases q : j = k
        · rw [q]; exact l
        · exact q3 j (by omega)
theorem rx_cellOf {post : Int32 → Prop} {p K : Nat} {gp : Nat → Nat} (hp : p < 4) (hK : K ≤ 8) (hct : CT p = nI K) (hnb : ∀ k, k < K → NB (p * 8 + k) = nI (gp k)) {x : Int32}
    (h1 : ∀ k, k < K → nI (gp k) = x → post (nI (p * 8 + k))) (h2 : (∀ k, k < K → ¬ nI (gp k) = x) → post (-4)) : wpX_cellOf post (nI n, nI c, nI m, vX, IV, U, CT, NB, SV, ST, SD, RC, PL, SI, RI, LN, ND, SE) (nI p) x := by
  simp (disch := omega) only [wpX_cellOf, wpX_firstCell, forall_eq, Nat.le_refl, rl_10, rl_n10, nI_leI, nI_ltI, nI_eq, vp_in_nI, nI_clamp, nI_1, nI_add, rl_lt0, rl_0le, rl_eq0, rl_eq1, rl_eq2, rl_m1, rl_m8, rl_m100, rl_vb0, rl_vb1, true_implies, forall_const, not_true_eq_false, not_false_eq_true, false_implies, and_true, true_and, implies_true, and_self]
  exact ⟨K + 1, rx_cellOf_l hp hK hct hnb h1 h2 (K + 1) 0 (by omega) (by omega) (fun j hj => absurd hj (by omega))⟩
theorem rx_newest_l (hA : rl_A n c m iv ct g st sd rc si ri IV CT NB ST SD RC SI RI) {post : Int32 → Prop} {p b k0 : Nat} (hp : p < n) (hb : b < 2 ^ 31) (hk : k0 < ct p) (hle : g p k0 ≤ b)
    (hmax : ∀ j, j < ct p → g p j ≤ b → j ≤ k0) (hpost : post (nI (g p k0))) :
    ∀ (fu k : Nat) (x4 : Int32), ct p < fu + k → k ≤ ct p → (k0 < k → x4 = nI (g p k0)) → wX_newestAtMost_12 post (nI p) (nI b) (nI (p * 8)) (nI n) (nI c) (nI m) vX IV U CT NB SV ST SD RC PL SI RI LN ND SE fu x4 (nI k) := by
  have hA' := hA
  obtain ⟨hW, hIV, hCT, hNB, hST, hSD, hRC, hSI, hRI⟩ := hA'
  have hW' := hW
  obtain ⟨⟨⟨n2, n4⟩, ⟨c3, c8⟩, ⟨m4, m16⟩⟩, hS, hM, hB⟩ := hW'
  obtain ⟨s1, s2, s3, s4, s5⟩ := hS p hp
  intro fu
  induction fu with
  | zero => intro k x4 q1 q2; omega
  | succ fu ih =>
    intro k x4 q1 q2 q3
    by_cases e : ct p ≤ k
    · simp (disch := omega) only [wX_newestAtMost_12, hCT, e, forall_eq, Nat.le_refl, rl_10, rl_n10, nI_leI, nI_ltI, nI_eq, vp_in_nI, nI_clamp, nI_1, nI_add, rl_lt0, rl_0le, rl_eq0, rl_eq1, rl_eq2, rl_m1, rl_m8, rl_m100, rl_vb0, rl_vb1, true_implies, forall_const, not_true_eq_false, not_false_eq_true, false_implies, and_true, true_and, implies_true, and_self]
      rw [q3 (by omega)]
      exact hpost
    · have hkc : k < ct p := by omega
      have hnb := hNB p hp k hkc
      have hg := s4 k hkc
      by_cases l : g p k ≤ b
      · have l2 : ¬ b < g p k := by omega
        simp (disch := omega) only [wX_newestAtMost_12, hCT, e, hnb, l2, forall_eq, Nat.le_refl, rl_10, rl_n10, nI_leI, nI_ltI, nI_eq, vp_in_nI, nI_clamp, nI_1, nI_add, rl_lt0, rl_0le, rl_eq0, rl_eq1, rl_eq2, rl_m1, rl_m8, rl_m100, rl_vb0, rl_vb1, true_implies, forall_const, not_true_eq_false, not_false_eq_true, false_implies, and_true, true_and, implies_true, and_self]
        refine ih (k + 1) _ (by omega) (by omega) (fun z => ?_)
        have := hmax k hkc l
        have e3 : k = k0 := by omega
        rw [e3]
      · have l2 : b < g p k := by omega
        simp (disch := omega) only [wX_newestAtMost_12, hCT, e, hnb, l2, forall_eq, Nat.le_refl, rl_10, rl_n10, nI_leI, nI_ltI, nI_eq, vp_in_nI, nI_clamp, nI_1, nI_add, rl_lt0, rl_0le, rl_eq0, rl_eq1, rl_eq2, rl_m1, rl_m8, rl_m100, rl_vb0, rl_vb1, true_implies, forall_const, not_true_eq_false, not_false_eq_true, false_implies, and_true, true_and, implies_true, and_self]
        refine ih (k + 1) _ (by omega) (by omega) (fun z => ?_)
        by_cases q : k0 = k
        · rw [q] at hle; exact absurd hle l
        · exact q3 (by omega)
theorem rx_newest (hA : rl_A n c m iv ct g st sd rc si ri IV CT NB ST SD RC SI RI) {post : Int32 → Prop} {p b k0 : Nat} (hp : p < n) (hb : b < 2 ^ 31) (hk : k0 < ct p) (hle : g p k0 ≤ b)
    (hmax : ∀ j, j < ct p → g p j ≤ b → j ≤ k0) (hpost : post (nI (g p k0))) : wpX_newestAtMost post (nI n, nI c, nI m, vX, IV, U, CT, NB, SV, ST, SD, RC, PL, SI, RI, LN, ND, SE) (nI p) (nI b) := by
  have n4 := hA.1.1.1.2
  simp (disch := omega) only [wpX_newestAtMost, wpX_firstCell, forall_eq, Nat.le_refl, rl_10, rl_n10, nI_leI, nI_ltI, nI_eq, vp_in_nI, nI_clamp, nI_1, nI_add, rl_lt0, rl_0le, rl_eq0, rl_eq1, rl_eq2, rl_m1, rl_m8, rl_m100, rl_vb0, rl_vb1, true_implies, forall_const, not_true_eq_false, not_false_eq_true, false_implies, and_true, true_and, implies_true, and_self]
  exact ⟨ct p + 1, rx_newest_l hA hp hb hk hle hmax hpost (ct p + 1) 0 _ (by omega) (by omega) (fun z => by omega)⟩
/-- the processes that are down -/
def rl_dn (U : Nat → Int32) : Nat → Bool := fun p => decide (U p = 0)
theorem rx_down_l {post : Int32 → Prop} (n4 : n ≤ 4) (hpost : post (rl_or (rl_dn U) n)) :
    ∀ (fu p : Nat), n < fu + p → p ≤ n → wX_downSet_4 post (nI n) (nI c) (nI m) vX IV U CT NB SV ST SD RC PL SI RI LN ND SE fu (rl_or (rl_dn U) p) (nI p) := by
  intro fu
  induction fu with
  | zero => intro p q1 q2; omega
  | succ fu ih =>
    intro p q1 q2
    by_cases e : n ≤ p
    · have e2 : p = n := by omega
      simp (disch := omega) only [wX_downSet_4, e, forall_eq, Nat.le_refl, rl_10, rl_n10, nI_leI, nI_ltI, nI_eq, vp_in_nI, nI_clamp, nI_1, nI_add, rl_lt0, rl_0le, rl_eq0, rl_eq1, rl_eq2, rl_m1, rl_m8, rl_m100, rl_vb0, rl_vb1, true_implies, forall_const, not_true_eq_false, not_false_eq_true, false_implies, and_true, true_and, implies_true, and_self]
      rw [e2]; exact hpost
    · have h4 : p < 4 := by omega
      by_cases l : U p = 0
      · have hd : rl_dn U p = true := decide_eq_true l
        simp (disch := omega) only [wX_downSet_4, e, l, forall_eq, Nat.le_refl, rl_10, rl_n10, nI_leI, nI_ltI, nI_eq, vp_in_nI, nI_clamp, nI_1, nI_add, rl_lt0, rl_0le, rl_eq0, rl_eq1, rl_eq2, rl_m1, rl_m8, rl_m100, rl_vb0, rl_vb1, true_implies, forall_const, not_true_eq_false, not_false_eq_true, false_implies, and_true, true_and, implies_true, and_self]
        have := ih (p + 1) (by omega) (by omega)
        rw [rl_or_t hd] at this
        exact this
      · have hd : ¬ rl_dn U p = true := fun z => l (of_decide_eq_true z)
        simp (disch := omega) only [wX_downSet_4, e, l, forall_eq, Nat.le_refl, rl_10, rl_n10, nI_leI, nI_ltI, nI_eq, vp_in_nI, nI_clamp, nI_1, nI_add, rl_lt0, rl_0le, rl_eq0, rl_eq1, rl_eq2, rl_m1, rl_m8, rl_m100, rl_vb0, rl_vb1, true_implies, forall_const, not_true_eq_false, not_false_eq_true, false_implies, and_true, true_and, implies_true, and_self]
        have := ih (p + 1) (by omega) (by omega)
        rw [rl_or_f hd] at this
        exact this
theorem rx_down {post : Int32 → Prop} (n4 : n ≤ 4) (hpost : post (rl_or (rl_dn U) n)) : wpX_downSet post (nI n, nI c, nI m, vX, IV, U, CT, NB, SV, ST, SD, RC, PL, SI, RI, LN, ND, SE) := by
  simp only [wpX_downSet]
  exact ⟨n + 1, rx_down_l n4 hpost (n + 1) 0 (by omega) (by omega)⟩
theorem rx_recInc (hQ : rl_Q n m sd rc si ri SD RC SI RI) {post : Int32 → Prop} {s : Nat} {x : Nat → Nat} (hs : s < m) (hx : ∀ p, p < n → LN p = nI (x p)) (h100 : ∀ p, p < n → x p ≤ 100)
    (h1 : ri s < x (rc s) → post 1) (h0 : ¬ ri s < x (rc s) → post 0) : wpX_isReceiptIncluded post (nI n, nI c, nI m, vX, IV, U, CT, NB, SV, ST, SD, RC, PL, SI, RI, LN, ND, SE) (nI s) := by
  obtain ⟨n4, m16, hM1, hSD, hRC, hSI, hRI⟩ := hQ
  obtain ⟨t2, t3, t4, t5⟩ := hM1 s
  have hl := hx _ t3
  have h3 := h100 _ t3
  by_cases e : x (rc s) ≤ ri s
  · simp (disch := omega) only [wpX_isReceiptIncluded, hRC, hRI, hl, e, forall_eq, Nat.le_refl, rl_10, rl_n10, nI_leI, nI_ltI, nI_eq, vp_in_nI, nI_clamp, nI_1, nI_add, rl_lt0, rl_0le, rl_eq0, rl_eq1, rl_eq2, rl_m1, rl_m8, rl_m100, rl_vb0, rl_vb1, true_implies, forall_const, not_true_eq_false, not_false_eq_true, false_implies, and_true, true_and, implies_true, and_self]
    exact h0 (by omega)
  · simp (disch := omega) only [wpX_isReceiptIncluded, hRC, hRI, hl, e, forall_eq, Nat.le_refl, rl_10, rl_n10, nI_leI, nI_ltI, nI_eq, vp_in_nI, nI_clamp, nI_1, nI_add, rl_lt0, rl_0le, rl_eq0, rl_eq1, rl_eq2, rl_m1, rl_m8, rl_m100, rl_vb0, rl_vb1, true_implies, forall_const, not_true_eq_false, not_false_eq_true, false_implies, and_true, true_and, implies_true, and_self]
    exact h1 (by omega)
theorem rx_sendInc (hQ : rl_Q n m sd rc si ri SD RC SI RI) {post : Int32 → Prop} {s : Nat} {x : Nat → Nat} (hs : s < m) (hx : ∀ p, p < n → LN p = nI (x p)) (h100 : ∀ p, p < n → x p ≤ 100)
    (h1 : si s < x (sd s) → post 1) (h0 : ¬ si s < x (sd s) → post 0) : wpX_isSendingIncluded post (nI n, nI c, nI m, vX, IV, U, CT, NB, SV, ST, SD, RC, PL, SI, RI, LN, ND, SE) (nI s) := by
  obtain ⟨n4, m16, hM1, hSD, hRC, hSI, hRI⟩ := hQ
  obtain ⟨t2, t3, t4, t5⟩ := hM1 s
  have hl := hx _ t2
  have h3 := h100 _ t2
  by_cases e : x (sd s) ≤ si s
  · simp (disch := omega) only [wpX_isSendingIncluded, hSD, hSI, hl, e, forall_eq, Nat.le_refl, rl_10, rl_n10, nI_leI, nI_ltI, nI_eq, vp_in_nI, nI_clamp, nI_1, nI_add, rl_lt0, rl_0le, rl_eq0, rl_eq1, rl_eq2, rl_m1, rl_m8, rl_m100, rl_vb0, rl_vb1, true_implies, forall_const, not_true_eq_false, not_false_eq_true, false_implies, and_true, true_and, implies_true, and_self]
    exact h0 (by omega)
  · simp (disch := omega) only [wpX_isSendingIncluded, hSD, hSI, hl, e, forall_eq, Nat.le_refl, rl_10, rl_n10, nI_leI, nI_ltI, nI_eq, vp_in_nI, nI_clamp, nI_1, nI_add, rl_lt0, rl_0le, rl_eq0, rl_eq1, rl_eq2, rl_m1, rl_m8, rl_m100, rl_vb0, rl_vb1, true_implies, forall_const, not_true_eq_false, not_false_eq_true, false_implies, and_true, true_and, implies_true, and_self]
    exact h1 (by omega)
theorem rx_orphan (hA : rl_A n c m iv ct g st sd rc si ri IV CT NB ST SD RC SI RI) {post : Int32 → Prop} {s : Nat} {x : Nat → Nat} (hs : s < m) (hx : ∀ p, p < n → LN p = nI (x p)) (h100 : ∀ p, p < n → x p ≤ 100)
    (h1 : st s = 2 → ri s < x (rc s) → ¬ si s < x (sd s) → post 1) (h0 : (st s = 2 → ri s < x (rc s) → si s < x (sd s)) → post 0) : wpX_isOrphan post (nI n, nI c, nI m, vX, IV, U, CT, NB, SV, ST, SD, RC, PL, SI, RI, LN, ND, SE) (nI s) := by
  have hA' := hA
  obtain ⟨hW, hIV, hCT, hNB, hST, hSD, hRC, hSI, hRI⟩ := hA'
  have hW' := hW
  obtain ⟨⟨⟨n2, n4⟩, ⟨c3, c8⟩, ⟨m4, m16⟩⟩, hS, hM, hB⟩ := hW'
  obtain ⟨t1, t2, t3, t4, t5⟩ := hM.1 s
  by_cases e : st s = 2
  · simp (disch := omega) only [wpX_isOrphan, hST, e, forall_eq, Nat.le_refl, rl_10, rl_n10, nI_leI, nI_ltI, nI_eq, vp_in_nI, nI_clamp, nI_1, nI_add, rl_lt0, rl_0le, rl_eq0, rl_eq1, rl_eq2, rl_m1, rl_m8, rl_m100, rl_vb0, rl_vb1, true_implies, forall_const, not_true_eq_false, not_false_eq_true, false_implies, and_true, true_and, implies_true, and_self]
    refine rx_recInc (rl_Q_of hA) hs hx h100 (fun a => ?_) (fun a => ?_)
    · try dsimp only
      refine br_f (by decide) ?_
      refine rx_sendInc (rl_Q_of hA) hs hx h100 (fun b => ?_) (fun b => ?_)
      · try dsimp only
        exact br_f (by decide) (h0 (fun _ _ => b))
      · try dsimp only
        exact br_t rfl (h1 e a b)
    · try dsimp only
      exact br_t rfl (h0 (fun _ z => absurd z a))
  · simp (disch := omega) only [wpX_isOrphan, hST, e, forall_eq, Nat.le_refl, rl_10, rl_n10, nI_leI, nI_ltI, nI_eq, vp_in_nI, nI_clamp, nI_1, nI_add, rl_lt0, rl_0le, rl_eq0, rl_eq1, rl_eq2, rl_m1, rl_m8, rl_m100, rl_vb0, rl_vb1, true_implies, forall_const, not_true_eq_false, not_false_eq_true, false_implies, and_true, true_and, implies_true, and_self]
    exact h0 (fun z => absurd z e)
theorem rx_isNow {post : Int32 → Prop} {p v y : Nat} (hp : p < 4) (hv : v < 2 ^ 31) (hy : y < 2 ^ 31) (hiv : IV p = nI v) (hl : LN p = nI y) (h1 : v < y → post 1) (h0 : ¬ v < y → post 0) :
    wpX_isNow post (nI n, nI c, nI m, vX, IV, U, CT, NB, SV, ST, SD, RC, PL, SI, RI, LN, ND, SE) (nI p) := by
  by_cases e : v < y
  · have e2 : ¬ y ≤ v := by omega
    simp (disch := omega) only [wpX_isNow, hiv, hl, e, e2, forall_eq, Nat.le_refl, rl_10, rl_n10, nI_leI, nI_ltI, nI_eq, vp_in_nI, nI_clamp, nI_1, nI_add, rl_lt0, rl_0le, rl_eq0, rl_eq1, rl_eq2, rl_m1, rl_m8, rl_m100, rl_vb0, rl_vb1, true_implies, forall_const, not_true_eq_false, not_false_eq_true, false_implies, and_true, true_and, implies_true, and_self]
    exact h1 e
  · have e2 : y ≤ v := by omega
    simp (disch := omega) only [wpX_isNow, hiv, hl, e, e2, forall_eq, Nat.le_refl, rl_10, rl_n10, nI_leI, nI_ltI, nI_eq, vp_in_nI, nI_clamp, nI_1, nI_add, rl_lt0, rl_0le, rl_eq0, rl_eq1, rl_eq2, rl_m1, rl_m8, rl_m100, rl_vb0, rl_vb1, true_implies, forall_const, not_true_eq_false, not_false_eq_true, false_implies, and_true, true_and, implies_true, and_self]
    exact h0 e
end
end
section
section
variable {n c m : Nat} {iv ct st sd rc si ri : Nat → Nat} {g : Nat → Nat → Nat}
variable {vX IV U CT NB SV ST SD RC PL SI RI LN ND SE : Nat → Int32}
theorem rx_start_l (hA : rl_A n c m iv ct g st sd rc si ri IV CT NB ST SD RC SI RI) {post : SX → Prop} {T : Int32} (hpost : ∀ LN', (∀ q, q < n → LN' q = nI (rl_G ct g iv q (rl_tp ct T q))) → post (nI n, nI c, nI m, vX, IV, U, CT, NB, SV, ST, SD, RC, PL, SI, RI, LN', ND, SE)) :
    ∀ (fu p : Nat) (LN : Nat → Int32), n < fu + p → p ≤ n → (∀ q, q < p → LN q = nI (rl_G ct g iv q (rl_tp ct T q))) → wX_startLine_2 post T (nI n) (nI c) (nI m) fu (nI p) vX IV U CT NB SV ST SD RC PL SI RI LN ND SE := by
  have hA' := hA
  obtain ⟨hW, hIV, hCT, hNB, hST, hSD, hRC, hSI, hRI⟩ := hA'
  have hW' := hW
  obtain ⟨⟨⟨n2, n4⟩, ⟨c3, c8⟩, ⟨m4, m16⟩⟩, hS, hM, hB⟩ := hW'
  intro fu
  induction fu with
  | zero => intro p LN q1 q2; omega
  | succ fu ih =>
    intro p LN q1 q2 q3
    by_cases e : n ≤ p
    · simp (disch := omega) only [wX_startLine_2, e, forall_eq, Nat.le_refl, rl_10, rl_n10, nI_leI, nI_ltI, nI_eq, vp_in_nI, nI_clamp, nI_1, nI_add, rl_lt0, rl_0le, rl_eq0, rl_eq1, rl_eq2, rl_m1, rl_m8, rl_m100, rl_vb0, rl_vb1, true_implies, forall_const, not_true_eq_false, not_false_eq_true, false_implies, and_true, true_and, implies_true, and_self]
      exact hpost LN (fun q hq => q3 q (by omega))
    · have hp : p < n := by omega
      obtain ⟨s1, s2, s3, s4, s5⟩ := hS p hp
      by_cases l : (T &&& ((1 : Int32) <<< (nI p &&& 31))) = 0
      · have ht : rl_tp ct T p = ct p := if_pos l
        simp (disch := omega) only [wX_startLine_2, e, l, hIV, forall_eq, Nat.le_refl, rl_10, rl_n10, nI_leI, nI_ltI, nI_eq, vp_in_nI, nI_clamp, nI_1, nI_add, rl_lt0, rl_0le, rl_eq0, rl_eq1, rl_eq2, rl_m1, rl_m8, rl_m100, rl_vb0, rl_vb1, true_implies, forall_const, not_true_eq_false, not_false_eq_true, false_implies, and_true, true_and, implies_true, and_self]
        refine ih (p + 1) _ (by omega) (by omega) (fun q hq => ?_)
        by_cases qe : q = p
        · rw [qe, pk_us, ht, rl_G_now (by omega)]
        · rw [pk_un qe]; exact q3 q (by omega)
      · have ht : rl_tp ct T p = ct p - 1 := if_neg l
        have hg := s4 (ct p - 1) (by omega)
        simp (disch := omega) only [wX_startLine_2, e, l, forall_eq, Nat.le_refl, rl_10, rl_n10, nI_leI, nI_ltI, nI_eq, vp_in_nI, nI_clamp, nI_1, nI_add, rl_lt0, rl_0le, rl_eq0, rl_eq1, rl_eq2, rl_m1, rl_m8, rl_m100, rl_vb0, rl_vb1, true_implies, forall_const, not_true_eq_false, not_false_eq_true, false_implies, and_true, true_and, implies_true, and_self]
        refine rx_newest hA (k0 := ct p - 1) (b := 99) hp (by decide) (by omega) (by omega) (fun j hj _ => by omega) ?_
        try simp (disch := omega) only [forall_eq, Nat.le_refl, rl_10, rl_n10, nI_leI, nI_ltI, nI_eq, vp_in_nI, nI_clamp, nI_1, nI_add, rl_lt0, rl_0le, rl_eq0, rl_eq1, rl_eq2, rl_m1, rl_m8, rl_m100, rl_vb0, rl_vb1, true_implies, forall_const, not_true_eq_false, not_false_eq_true, false_implies, and_true, true_and, implies_true, and_self]
        refine ih (p + 1) _ (by omega) (by omega) (fun q hq => ?_)
        by_cases qe : q = p
        · rw [qe, pk_us, ht, rl_G_in (by omega)]
        · rw [pk_un qe]; exact q3 q (by omega)
theorem rx_start (hA : rl_A n c m iv ct g st sd rc si ri IV CT NB ST SD RC SI RI) {post : SX → Prop} {T : Int32} (hpost : ∀ LN', (∀ q, q < n → LN' q = nI (rl_G ct g iv q (rl_tp ct T q))) → post (nI n, nI c, nI m, vX, IV, U, CT, NB, SV, ST, SD, RC, PL, SI, RI, LN', ND, SE)) :
    wpX_startLine post (nI n, nI c, nI m, vX, IV, U, CT, NB, SV, ST, SD, RC, PL, SI, RI, LN, ND, SE) T := by
  simp only [wpX_startLine]
  exact ⟨n + 1, rx_start_l hA hpost (n + 1) 0 LN (by omega) (by omega) (fun q hq => by omega)⟩
theorem rx_lower_l (hA : rl_A n c m iv ct g st sd rc si ri IV CT NB ST SD RC SI RI) {post : Int32 → SX → Prop} {T : Int32} {L κ0 : Nat → Nat} (hL : rl_IsL n (rl_tp ct T) (rl_C m iv ct g st sd rc si ri) L)
    (hpost : ∀ (r : Int32) (LN' : Nat → Int32) (κ : Nat → Nat), (∀ q, q < n → LN' q = nI (rl_G ct g iv q (κ q))) → rl_le n κ (rl_tp ct T) → rl_le n L κ →
      ((r = 0 ∧ rl_C m iv ct g st sd rc si ri κ) ∨ (r = 1 ∧ rl_sum κ n < rl_sum κ0 n)) → post r (nI n, nI c, nI m, vX, IV, U, CT, NB, SV, ST, SD, RC, PL, SI, RI, LN', ND, SE)) :
    ∀ (fu s : Nat) (x1 : Int32) (LN : Nat → Int32) (κ : Nat → Nat), m < fu + s → s ≤ m → (∀ q, q < n → LN q = nI (rl_G ct g iv q (κ q))) → rl_le n κ (rl_tp ct T) → rl_le n L κ →
      ((x1 = 0 ∧ rl_sum κ n = rl_sum κ0 n ∧ ∀ j, j < s → st j = 2 → ri j < rl_G ct g iv (rc j) (κ (rc j)) → si j < rl_G ct g iv (sd j) (κ (sd j))) ∨ (x1 = 1 ∧ rl_sum κ n < rl_sum κ0 n)) →
      wX_lowerLine_4 post (nI n) (nI c) (nI m) fu x1 (nI s) vX IV U CT NB SV ST SD RC PL SI RI LN ND SE := by
  have hA' := hA
  obtain ⟨hW, hIV, hCT, hNB, hST, hSD, hRC, hSI, hRI⟩ := hA'
  have hW' := hW
  obtain ⟨⟨⟨n2, n4⟩, ⟨c3, c8⟩, ⟨m4, m16⟩⟩, hS, hM, hB⟩ := hW'
  intro fu
  induction fu with
  | zero => intro s x1 LN κ q1 q2; omega
  | succ fu ih =>
    intro s x1 LN κ q1 q2 q3 q4 q5 q6
    have hx1 : narrow .boolean (.int x1) = .int x1 := rl_nb01 (by rcases q6 with q | q; exact Or.inl q.1; exact Or.inr q.1)
    by_cases e : m ≤ s
    · simp (disch := omega) only [wX_lowerLine_4, e, hx1, forall_eq, Nat.le_refl, rl_10, rl_n10, nI_leI, nI_ltI, nI_eq, vp_in_nI, nI_clamp, nI_1, nI_add, rl_lt0, rl_0le, rl_eq0, rl_eq1, rl_eq2, rl_m1, rl_m8, rl_m100, rl_vb0, rl_vb1, true_implies, forall_const, not_true_eq_false, not_false_eq_true, false_implies, and_true, true_and, implies_true, and_self]
      refine hpost x1 LN κ q3 q4 q5 ?_
      rcases q6 with ⟨a, _, b⟩ | q
      · exact Or.inl ⟨a, fun j hj => b j (by omega)⟩
      · exact Or.inr q
    · have hs : s < m := by omega
      obtain ⟨t1, t2, t3, t4, t5⟩ := hM.1 s
      have h100 : ∀ p, p < n → rl_G ct g iv p (κ p) ≤ 100 := fun p hp => rl_G_100 hS (κ p) hp
      simp (disch := omega) only [wX_lowerLine_4, e, forall_eq, Nat.le_refl, rl_10, rl_n10, nI_leI, nI_ltI, nI_eq, vp_in_nI, nI_clamp, nI_1, nI_add, rl_lt0, rl_0le, rl_eq0, rl_eq1, rl_eq2, rl_m1, rl_m8, rl_m100, rl_vb0, rl_vb1, true_implies, forall_const, not_true_eq_false, not_false_eq_true, false_implies, and_true, true_and, implies_true, and_self]
      refine rx_orphan hA (x := fun p => rl_G ct g iv p (κ p)) hs q3 h100 (fun a1 a2 a3 => ?_) (fun a => ?_)
      · obtain ⟨k, b1, b2, b3, b4, b5, b6⟩ := rl_lowk hS hM hL q4 q5 hs a1 a2 a3
        simp (disch := omega) only [hRC, hRI, forall_eq, Nat.le_refl, rl_10, rl_n10, nI_leI, nI_ltI, nI_eq, vp_in_nI, nI_clamp, nI_1, nI_add, rl_lt0, rl_0le, rl_eq0, rl_eq1, rl_eq2, rl_m1, rl_m8, rl_m100, rl_vb0, rl_vb1, true_implies, forall_const, not_true_eq_false, not_false_eq_true, false_implies, and_true, true_and, implies_true, and_self]
        refine rx_newest hA (k0 := k) (b := ri s) t3 (by omega) b1 b2 b3 ?_
        try simp (disch := omega) only [forall_eq, Nat.le_refl, rl_10, rl_n10, nI_leI, nI_ltI, nI_eq, vp_in_nI, nI_clamp, nI_1, nI_add, rl_lt0, rl_0le, rl_eq0, rl_eq1, rl_eq2, rl_m1, rl_m8, rl_m100, rl_vb0, rl_vb1, true_implies, forall_const, not_true_eq_false, not_false_eq_true, false_implies, and_true, true_and, implies_true, and_self]
        refine ih (s + 1) _ _ (rl_u κ (rc s) k) (by omega) (by omega) (fun q hq => ?_) b4 b5 (Or.inr ⟨rfl, ?_⟩)
        · by_cases qe : q = rc s
          · rw [qe, pk_us, rl_us, rl_G_in b1]
          · rw [pk_un qe, rl_un qe]; exact q3 q hq
        · rcases q6 with ⟨_, b, _⟩ | q <;> omega
      · try simp (disch := omega) only [forall_eq, Nat.le_refl, rl_10, rl_n10, nI_leI, nI_ltI, nI_eq, vp_in_nI, nI_clamp, nI_1, nI_add, rl_lt0, rl_0le, rl_eq0, rl_eq1, rl_eq2, rl_m1, rl_m8, rl_m100, rl_vb0, rl_vb1, true_implies, forall_const, not_true_eq_false, not_false_eq_true, false_implies, and_true, true_and, implies_true, and_self]
        refine ih (s + 1) _ _ κ (by omega) (by omega) q3 q4 q5 ?_
        rcases q6 with ⟨d1, d2, d3⟩ | q
        · refine Or.inl ⟨d1, d2, fun j hj => ?_⟩
          by_cases qe : j = s
          · rw [qe]; exact a
          · exact d3 j (by omega)
        · exact Or.inr q
theorem rx_lower (hA : rl_A n c m iv ct g st sd rc si ri IV CT NB ST SD RC SI RI) {post : Int32 → SX → Prop} {T : Int32} {L κ0 : Nat → Nat} (hL : rl_IsL n (rl_tp ct T) (rl_C m iv ct g st sd rc si ri) L)
    (h1 : ∀ q, q < n → LN q = nI (rl_G ct g iv q (κ0 q))) (h2 : rl_le n κ0 (rl_tp ct T)) (h3 : rl_le n L κ0)
    (hpost : ∀ (r : Int32) (LN' : Nat → Int32) (κ : Nat → Nat), (∀ q, q < n → LN' q = nI (rl_G ct g iv q (κ q))) → rl_le n κ (rl_tp ct T) → rl_le n L κ →
      ((r = 0 ∧ rl_C m iv ct g st sd rc si ri κ) ∨ (r = 1 ∧ rl_sum κ n < rl_sum κ0 n)) → post r (nI n, nI c, nI m, vX, IV, U, CT, NB, SV, ST, SD, RC, PL, SI, RI, LN', ND, SE)) :
    wpX_lowerLine post (nI n, nI c, nI m, vX, IV, U, CT, NB, SV, ST, SD, RC, PL, SI, RI, LN, ND, SE) := by
  simp only [wpX_lowerLine]
  exact ⟨m + 1, rx_lower_l hA hL hpost (m + 1) 0 0 LN κ0 (by omega) (by omega) h1 h2 h3 (Or.inl ⟨rfl, rfl, fun j hj => by omega⟩)⟩
theorem rx_find_l (hA : rl_A n c m iv ct g st sd rc si ri IV CT NB ST SD RC SI RI) {post : SX → Prop} {T : Int32} {L : Nat → Nat} (hL : rl_IsL n (rl_tp ct T) (rl_C m iv ct g st sd rc si ri) L)
    (hpost : ∀ LN', (∀ q, q < n → LN' q = nI (rl_G ct g iv q (L q))) → post (nI n, nI c, nI m, vX, IV, U, CT, NB, SV, ST, SD, RC, PL, SI, RI, LN', ND, SE)) :
    ∀ (fu r : Nat) (x2 : Int32) (LN : Nat → Int32) (κ : Nat → Nat), 33 < fu + r → r ≤ 33 → (∀ q, q < n → LN q = nI (rl_G ct g iv q (κ q))) → rl_le n κ (rl_tp ct T) → rl_le n L κ →
      ((x2 = 0 ∧ rl_C m iv ct g st sd rc si ri κ) ∨ (x2 = 1 ∧ rl_sum κ n + r ≤ 32)) → wX_findLine_9 post fu x2 (nI r) (nI n) (nI c) (nI m) vX IV U CT NB SV ST SD RC PL SI RI LN ND SE := by
  intro fu
  induction fu with
  | zero => intro r x2 LN κ q1 q2; omega
  | succ fu ih =>
    intro r x2 LN κ q1 q2 q3 q4 q5 q6
    rcases q6 with ⟨a, b⟩ | ⟨a, b⟩
    · have hk := rl_IsL_uq hL q4 b q5
      simp (disch := omega) only [wX_findLine_9, a, forall_eq, Nat.le_refl, rl_10, rl_n10, nI_leI, nI_ltI, nI_eq, vp_in_nI, nI_clamp, nI_1, nI_add, rl_lt0, rl_0le, rl_eq0, rl_eq1, rl_eq2, rl_m1, rl_m8, rl_m100, rl_vb0, rl_vb1, true_implies, forall_const, not_true_eq_false, not_false_eq_true, false_implies, and_true, true_and, implies_true, and_self]
      exact hpost LN (fun q hq => by rw [← hk q hq]; exact q3 q hq)
    · have h33 : ¬ 33 ≤ r := by omega
      have h10 : ¬ (1 : Int32) = 0 := by decide
      simp (disch := omega) only [wX_findLine_9, a, h33, h10, rl_33, forall_eq, Nat.le_refl, rl_10, rl_n10, nI_leI, nI_ltI, nI_eq, vp_in_nI, nI_clamp, nI_1, nI_add, rl_lt0, rl_0le, rl_eq0, rl_eq1, rl_eq2, rl_m1, rl_m8, rl_m100, rl_vb0, rl_vb1, true_implies, forall_const, not_true_eq_false, not_false_eq_true, false_implies, and_true, true_and, implies_true, and_self]
      refine rx_lower hA hL q3 q4 q5 (fun r2 LN2 κ2 c1 c2 c3 c4 => ?_)
      try simp (disch := omega) only [forall_eq, Nat.le_refl, rl_10, rl_n10, nI_leI, nI_ltI, nI_eq, vp_in_nI, nI_clamp, nI_1, nI_add, rl_lt0, rl_0le, rl_eq0, rl_eq1, rl_eq2, rl_m1, rl_m8, rl_m100, rl_vb0, rl_vb1, true_implies, forall_const, not_true_eq_false, not_false_eq_true, false_implies, and_true, true_and, implies_true, and_self]
      refine ih (r + 1) _ _ κ2 (by omega) (by omega) c1 c2 c3 ?_
      rcases c4 with c4 | c4
      · exact Or.inl c4
      · exact Or.inr ⟨c4.1, by omega⟩
theorem rx_find (hA : rl_A n c m iv ct g st sd rc si ri IV CT NB ST SD RC SI RI) {post : SX → Prop} {T : Int32} {L : Nat → Nat} (hL : rl_IsL n (rl_tp ct T) (rl_C m iv ct g st sd rc si ri) L)
    (hpost : ∀ LN', (∀ q, q < n → LN' q = nI (rl_G ct g iv q (L q))) → post (nI n, nI c, nI m, vX, IV, U, CT, NB, SV, ST, SD, RC, PL, SI, RI, LN', ND, SE)) : wpX_findLine post (nI n, nI c, nI m, vX, IV, U, CT, NB, SV, ST, SD, RC, PL, SI, RI, LN, ND, SE) T := by
  have hA' := hA
  obtain ⟨hW, hIV, hCT, hNB, hST, hSD, hRC, hSI, hRI⟩ := hA'
  have hW' := hW
  obtain ⟨⟨⟨n2, n4⟩, ⟨c3, c8⟩, ⟨m4, m16⟩⟩, hS, hM, hB⟩ := hW'
  simp only [wpX_findLine]
  refine rx_start hA (fun LN1 h1 => ?_)
  have hsum : rl_sum (rl_tp ct T) n ≤ 32 := by
    have a1 := rl_sum_le (a := rl_tp ct T) (b := fun _ => 8) n (fun p hp => by have := rl_tp_le ct T p; have := (hS p hp).2.1; show rl_tp ct T p ≤ 8; omega)
    rw [rl_sum_c] at a1
    omega
  exact ⟨34, rx_find_l hA hL hpost 34 0 1 LN1 (rl_tp ct T) (by omega) (by omega) h1 (fun p _ => Nat.le_refl _) hL.1 (Or.inr ⟨rfl, by omega⟩)⟩
end
end
section
/-- 1 where a message is received -/
def rl_r2 (st : Nat → Nat) : Nat → Int32 := fun s => if st s = 2 then 1 else 0
section
variable {n c m : Nat} {iv ct st sd rc si ri : Nat → Nat} {g : Nat → Nat → Nat}
variable {vX IV U CT NB SV ST SD RC PL SI RI LN ND SE : Nat → Int32}
theorem rx_clear2_l (hA : rl_A n c m iv ct g st sd rc si ri IV CT NB ST SD RC SI RI) {post : SX → Prop} (hpost : post (nI n, nI c, nI m, vX, IV, U, CT, NB, SV, ST, SD, RC, PL, SI, RI, LN, ND, rl_mix m (rl_r2 st) SE)) :
    ∀ (fu s : Nat), m < fu + s → s ≤ m → wX_clearMarks_23 post (nI n) (nI c) (nI m) fu (nI s) vX IV U CT NB SV ST SD RC PL SI RI LN ND (rl_mix s (rl_r2 st) SE) := by
  have hA' := hA
  obtain ⟨hW, hIV, hCT, hNB, hST, hSD, hRC, hSI, hRI⟩ := hA'
  have hW' := hW
  obtain ⟨⟨⟨n2, n4⟩, ⟨c3, c8⟩, ⟨m4, m16⟩⟩, hS, hM, hB⟩ := hW'
  intro fu
  induction fu with
  | zero => intro s q1 q2; omega
  | succ fu ih =>
    intro s q1 q2
    obtain ⟨t1, t2, t3, t4, t5⟩ := hM.1 s
    by_cases e : m ≤ s
    · have e2 : s = m := by omega
      simp (disch := omega) only [wX_clearMarks_23, e, forall_eq, Nat.le_refl, rl_10, rl_n10, nI_leI, nI_ltI, nI_eq, vp_in_nI, nI_clamp, nI_1, nI_add, rl_lt0, rl_0le, rl_eq0, rl_eq1, rl_eq2, rl_m1, rl_m8, rl_m100, rl_vb0, rl_vb1, true_implies, forall_const, not_true_eq_false, not_false_eq_true, false_implies, and_true, true_and, implies_true, and_self]
      rw [e2]; exact hpost
    · by_cases l : st s = 2
      · have hr : (1 : Int32) = rl_r2 st s := (if_pos l).symm
        have := ih (s + 1) (by omega) (by omega)
        rw [← rl_mix_s hr] at this
        simp (disch := omega) only [wX_clearMarks_23, e, hST, l, forall_eq, Nat.le_refl, rl_10, rl_n10, nI_leI, nI_ltI, nI_eq, vp_in_nI, nI_clamp, nI_1, nI_add, rl_lt0, rl_0le, rl_eq0, rl_eq1, rl_eq2, rl_m1, rl_m8, rl_m100, rl_vb0, rl_vb1, true_implies, forall_const, not_true_eq_false, not_false_eq_true, false_implies, and_true, true_and, implies_true, and_self]
        exact this
      · have hr : (0 : Int32) = rl_r2 st s := (if_neg l).symm
        have := ih (s + 1) (by omega) (by omega)
        rw [← rl_mix_s hr] at this
        simp (disch := omega) only [wX_clearMarks_23, e, hST, l, forall_eq, Nat.le_refl, rl_10, rl_n10, nI_leI, nI_ltI, nI_eq, vp_in_nI, nI_clamp, nI_1, nI_add, rl_lt0, rl_0le, rl_eq0, rl_eq1, rl_eq2, rl_m1, rl_m8, rl_m100, rl_vb0, rl_vb1, true_implies, forall_const, not_true_eq_false, not_false_eq_true, false_implies, and_true, true_and, implies_true, and_self]
        exact this
theorem rx_clear1_l (hA : rl_A n c m iv ct g st sd rc si ri IV CT NB ST SD RC SI RI) {post : SX → Prop} (hpost : post (nI n, nI c, nI m, vX, IV, U, CT, NB, SV, ST, SD, RC, PL, SI, RI, LN, rl_mix 32 (fun _ => 0) ND, rl_mix m (rl_r2 st) SE)) :
    ∀ (fu i : Nat), 32 < fu + i → i ≤ 32 → wX_clearMarks_2 post (nI n) (nI c) (nI m) fu (nI i) vX IV U CT NB SV ST SD RC PL SI RI LN (rl_mix i (fun _ => 0) ND) SE := by
  intro fu
  induction fu with
  | zero => intro i q1 q2; omega
  | succ fu ih =>
    intro i q1 q2
    by_cases e : 32 ≤ i
    · have e2 : i = 32 := by omega
      subst e2
      simp (disch := omega) only [wX_clearMarks_2, e, rl_32, forall_eq, Nat.le_refl, rl_10, rl_n10, nI_leI, nI_ltI, nI_eq, vp_in_nI, nI_clamp, nI_1, nI_add, rl_lt0, rl_0le, rl_eq0, rl_eq1, rl_eq2, rl_m1, rl_m8, rl_m100, rl_vb0, rl_vb1, true_implies, forall_const, not_true_eq_false, not_false_eq_true, false_implies, and_true, true_and, implies_true, and_self]
      have := rx_clear2_l (ND := rl_mix 32 (fun _ => 0) ND) hA hpost (m + 1) 0 (by omega) (by omega)
      rw [rl_mix_0] at this
      exact ⟨_, this⟩
    · have := ih (i + 1) (by omega) (by omega)
      rw [← rl_mix_s (x := 0) rfl] at this
      simp (disch := omega) only [wX_clearMarks_2, e, rl_32, forall_eq, Nat.le_refl, rl_10, rl_n10, nI_leI, nI_ltI, nI_eq, vp_in_nI, nI_clamp, nI_1, nI_add, rl_lt0, rl_0le, rl_eq0, rl_eq1, rl_eq2, rl_m1, rl_m8, rl_m100, rl_vb0, rl_vb1, true_implies, forall_const, not_true_eq_false, not_false_eq_true, false_implies, and_true, true_and, implies_true, and_self]
      exact this
theorem rx_clear (hA : rl_A n c m iv ct g st sd rc si ri IV CT NB ST SD RC SI RI) {post : SX → Prop} (hpost : post (nI n, nI c, nI m, vX, IV, U, CT, NB, SV, ST, SD, RC, PL, SI, RI, LN, rl_mix 32 (fun _ => 0) ND, rl_mix m (rl_r2 st) SE)) : wpX_clearMarks post (nI n, nI c, nI m, vX, IV, U, CT, NB, SV, ST, SD, RC, PL, SI, RI, LN, ND, SE) := by
  simp only [wpX_clearMarks]
  have := rx_clear1_l hA hpost 33 0 (by omega) (by omega)
  rw [rl_mix_0] at this
  exact ⟨_, this⟩
theorem rx_markN_l (hA : rl_A n c m iv ct g st sd rc si ri IV CT NB ST SD RC SI RI) {post : SX → Prop} {κ : Nat → Nat} (hx : ∀ p, p < n → LN p = nI (rl_G ct g iv p (κ p))) (hκ : rl_le n κ ct) {ND0 : Nat → Int32}
    (hpost : ∀ ND', (∀ p, p < n → ∀ k, k < ct p → (¬ ND' (p * 8 + k) = 0 ↔ ¬ ND0 (p * 8 + k) = 0 ∨ κ p = k)) → post (nI n, nI c, nI m, vX, IV, U, CT, NB, SV, ST, SD, RC, PL, SI, RI, LN, ND', SE)) :
    ∀ (fu i : Nat) (ND : Nat → Int32), n < fu + i → i ≤ n → (∀ p, p < n → ∀ k, k < ct p → (¬ ND (p * 8 + k) = 0 ↔ ¬ ND0 (p * 8 + k) = 0 ∨ (p < i ∧ κ p = k))) →
      wX_markNeededByLine_2 post (nI n) (nI c) (nI m) fu (nI i) vX IV U CT NB SV ST SD RC PL SI RI LN ND SE := by
  have hA' := hA
  obtain ⟨hW, hIV, hCT, hNB, hST, hSD, hRC, hSI, hRI⟩ := hA'
  have hW' := hW
  obtain ⟨⟨⟨n2, n4⟩, ⟨c3, c8⟩, ⟨m4, m16⟩⟩, hS, hM, hB⟩ := hW'
  intro fu
  induction fu with
  | zero => intro i ND q1 q2; omega
  | succ fu ih =>
    intro i ND q1 q2 q3
    by_cases e : n ≤ i
    · simp (disch := omega) only [wX_markNeededByLine_2, e, forall_eq, Nat.le_refl, rl_10, rl_n10, nI_leI, nI_ltI, nI_eq, vp_in_nI, nI_clamp, nI_1, nI_add, rl_lt0, rl_0le, rl_eq0, rl_eq1, rl_eq2, rl_m1, rl_m8, rl_m100, rl_vb0, rl_vb1, true_implies, forall_const, not_true_eq_false, not_false_eq_true, false_implies, and_true, true_and, implies_true, and_self]
      refine hpost ND (fun p hp k hk => ?_)
      rw [q3 p hp k hk]
      constructor
      · rintro (h | h)
        · exact Or.inl h
        · exact Or.inr h.2
      · rintro (h | h)
        · exact Or.inl h
        · exact Or.inr ⟨by omega, h⟩
    · have hi : i < n := by omega
      obtain ⟨s1, s2, s3, s4, s5⟩ := hS i hi
      have hki := hκ i hi
      have h100 := rl_G_100 hS (κ i) hi
      simp (disch := omega) only [wX_markNeededByLine_2, e, forall_eq, Nat.le_refl, rl_10, rl_n10, nI_leI, nI_ltI, nI_eq, vp_in_nI, nI_clamp, nI_1, nI_add, rl_lt0, rl_0le, rl_eq0, rl_eq1, rl_eq2, rl_m1, rl_m8, rl_m100, rl_vb0, rl_vb1, true_implies, forall_const, not_true_eq_false, not_false_eq_true, false_implies, and_true, true_and, implies_true, and_self]
      refine rx_cellOf (K := ct i) (gp := g i) (by omega) (by omega) (hCT i) (hNB i hi) (fun k hk ek => ?_) (fun ek => ?_)
      · have hgk := s4 k hk
        rw [hx i hi] at ek
        have ek2 : g i k = rl_G ct g iv i (κ i) := (nI_eq (by omega) (by omega)).mp ek
        have ek3 : k = κ i := rl_G_inj hS hi (by omega) hki (by rw [rl_G_in hk]; exact ek2)
        have hne := rl_ne4 (a := i * 8 + k) (by omega)
        simp (disch := omega) only [hne, forall_eq, Nat.le_refl, rl_10, rl_n10, nI_leI, nI_ltI, nI_eq, vp_in_nI, nI_clamp, nI_1, nI_add, rl_lt0, rl_0le, rl_eq0, rl_eq1, rl_eq2, rl_m1, rl_m8, rl_m100, rl_vb0, rl_vb1, true_implies, forall_const, not_true_eq_false, not_false_eq_true, false_implies, and_true, true_and, implies_true, and_self]
        refine ih (i + 1) _ (by omega) (by omega) (fun p hp j hj => ?_)
        have hcp := (hS p hp).2.1
        by_cases qe : p * 8 + j = i * 8 + k
        · have e1 : p = i := by omega
          have e2 : j = k := by omega
          rw [qe, pk_us, e1, e2]
          exact ⟨fun _ => Or.inr ⟨by omega, ek3.symm⟩, fun _ => by decide⟩
        · rw [pk_un qe, q3 p hp j hj]
          constructor
          · rintro (h | h)
            · exact Or.inl h
            · exact Or.inr ⟨by omega, h.2⟩
          · rintro (h | h)
            · exact Or.inl h
            · refine Or.inr ⟨?_, h.2⟩
              by_cases pe : p = i
              · exfalso; rw [pe] at h; rw [pe] at qe; omega
              · omega
      · have hk2 : ¬ κ i < ct i := by
          intro z
          refine ek (κ i) z ?_
          rw [hx i hi, rl_G_in z]
        try simp (disch := omega) only [forall_eq, Nat.le_refl, rl_10, rl_n10, nI_leI, nI_ltI, nI_eq, vp_in_nI, nI_clamp, nI_1, nI_add, rl_lt0, rl_0le, rl_eq0, rl_eq1, rl_eq2, rl_m1, rl_m8, rl_m100, rl_vb0, rl_vb1, true_implies, forall_const, not_true_eq_false, not_false_eq_true, false_implies, and_true, true_and, implies_true, and_self]
        refine ih (i + 1) _ (by omega) (by omega) (fun p hp j hj => ?_)
        rw [q3 p hp j hj]
        constructor
        · rintro (h | h)
          · exact Or.inl h
          · exact Or.inr ⟨by omega, h.2⟩
        · rintro (h | h)
          · exact Or.inl h
          · refine Or.inr ⟨?_, h.2⟩
            by_cases pe : p = i
            · exfalso; rw [pe] at h hj; omega
            · omega
theorem rx_markN (hA : rl_A n c m iv ct g st sd rc si ri IV CT NB ST SD RC SI RI) {post : SX → Prop} {κ : Nat → Nat} (hx : ∀ p, p < n → LN p = nI (rl_G ct g iv p (κ p))) (hκ : rl_le n κ ct)
    (hpost : ∀ ND', (∀ p, p < n → ∀ k, k < ct p → (¬ ND' (p * 8 + k) = 0 ↔ ¬ ND (p * 8 + k) = 0 ∨ κ p = k)) → post (nI n, nI c, nI m, vX, IV, U, CT, NB, SV, ST, SD, RC, PL, SI, RI, LN, ND', SE)) : wpX_markNeededByLine post (nI n, nI c, nI m, vX, IV, U, CT, NB, SV, ST, SD, RC, PL, SI, RI, LN, ND, SE) := by
  simp only [wpX_markNeededByLine]
  exact ⟨n + 1, rx_markN_l hA hx hκ hpost (n + 1) 0 ND (by omega) (by omega) (fun p hp k hk => ⟨fun h => Or.inl h, fun h => by rcases h with h | h; exact h; exact absurd h.1 (by omega)⟩)⟩
theorem rx_unm_l (hA : rl_A n c m iv ct g st sd rc si ri IV CT NB ST SD RC SI RI) {post : SX → Prop} {x : Nat → Nat} (hx : ∀ p, p < n → LN p = nI (x p)) (h100 : ∀ p, p < n → x p ≤ 100) {SE0 : Nat → Int32}
    (hpost : ∀ SE', (∀ s, s < m → (¬ SE' s = 0 ↔ ¬ SE0 s = 0 ∧ ri s < x (rc s))) → post (nI n, nI c, nI m, vX, IV, U, CT, NB, SV, ST, SD, RC, PL, SI, RI, LN, ND, SE')) :
    ∀ (fu i : Nat) (SE : Nat → Int32), m < fu + i → i ≤ m → (∀ s, s < m → (¬ SE s = 0 ↔ ¬ SE0 s = 0 ∧ (s < i → ri s < x (rc s)))) →
      wX_unmarkUnsettledByLine_2 post (nI n) (nI c) (nI m) fu (nI i) vX IV U CT NB SV ST SD RC PL SI RI LN ND SE := by
  have hA' := hA
  obtain ⟨hW, hIV, hCT, hNB, hST, hSD, hRC, hSI, hRI⟩ := hA'
  have hW' := hW
  obtain ⟨⟨⟨n2, n4⟩, ⟨c3, c8⟩, ⟨m4, m16⟩⟩, hS, hM, hB⟩ := hW'
  intro fu
  induction fu with
  | zero => intro i SE q1 q2; omega
  | succ fu ih =>
    intro i SE q1 q2 q3
    by_cases e : m ≤ i
    · simp (disch := omega) only [wX_unmarkUnsettledByLine_2, e, forall_eq, Nat.le_refl, rl_10, rl_n10, nI_leI, nI_ltI, nI_eq, vp_in_nI, nI_clamp, nI_1, nI_add, rl_lt0, rl_0le, rl_eq0, rl_eq1, rl_eq2, rl_m1, rl_m8, rl_m100, rl_vb0, rl_vb1, true_implies, forall_const, not_true_eq_false, not_false_eq_true, false_implies, and_true, true_and, implies_true, and_self]
      refine hpost SE (fun s hs => ?_)
      rw [q3 s hs]
      exact ⟨fun h => ⟨h.1, h.2 (by omega)⟩, fun h => ⟨h.1, fun _ => h.2⟩⟩
    · have hi : i < m := by omega
      have keep : (¬ SE i = 0 → ri i < x (rc i)) → ∀ s, s < m → (¬ SE s = 0 ↔ ¬ SE0 s = 0 ∧ (s < i + 1 → ri s < x (rc s))) := by
        intro hh s hs
        by_cases qe : s = i
        · rw [qe]
          constructor
          · intro h; exact ⟨((q3 i hi).mp h).1, fun _ => hh h⟩
          · intro h; exact (q3 i hi).mpr ⟨h.1, fun z => absurd z (by omega)⟩
        · rw [q3 s hs]
          exact ⟨fun h => ⟨h.1, fun z => h.2 (by omega)⟩, fun h => ⟨h.1, fun z => h.2 (by omega)⟩⟩
      by_cases l : SE i = 0
      · simp (disch := omega) only [wX_unmarkUnsettledByLine_2, e, l, forall_eq, Nat.le_refl, rl_10, rl_n10, nI_leI, nI_ltI, nI_eq, vp_in_nI, nI_clamp, nI_1, nI_add, rl_lt0, rl_0le, rl_eq0, rl_eq1, rl_eq2, rl_m1, rl_m8, rl_m100, rl_vb0, rl_vb1, true_implies, forall_const, not_true_eq_false, not_false_eq_true, false_implies, and_true, true_and, implies_true, and_self]
        exact ih (i + 1) _ (by omega) (by omega) (keep (fun z => absurd l z))
      · simp (disch := omega) only [wX_unmarkUnsettledByLine_2, e, l, forall_eq, Nat.le_refl, rl_10, rl_n10, nI_leI, nI_ltI, nI_eq, vp_in_nI, nI_clamp, nI_1, nI_add, rl_lt0, rl_0le, rl_eq0, rl_eq1, rl_eq2, rl_m1, rl_m8, rl_m100, rl_vb0, rl_vb1, true_implies, forall_const, not_true_eq_false, not_false_eq_true, false_implies, and_true, true_and, implies_true, and_self]
        refine rx_recInc (rl_Q_of hA) hi hx h100 (fun a => ?_) (fun a => ?_)
        · have h10 : ¬ (1 : Int32) = 0 := by decide
          simp (disch := omega) only [h10, forall_eq, Nat.le_refl, rl_10, rl_n10, nI_leI, nI_ltI, nI_eq, vp_in_nI, nI_clamp, nI_1, nI_add, rl_lt0, rl_0le, rl_eq0, rl_eq1, rl_eq2, rl_m1, rl_m8, rl_m100, rl_vb0, rl_vb1, true_implies, forall_const, not_true_eq_false, not_false_eq_true, false_implies, and_true, true_and, implies_true, and_self]
          exact ih (i + 1) _ (by omega) (by omega) (keep (fun _ => a))
        · try simp (disch := omega) only [forall_eq, Nat.le_refl, rl_10, rl_n10, nI_leI, nI_ltI, nI_eq, vp_in_nI, nI_clamp, nI_1, nI_add, rl_lt0, rl_0le, rl_eq0, rl_eq1, rl_eq2, rl_m1, rl_m8, rl_m100, rl_vb0, rl_vb1, true_implies, forall_const, not_true_eq_false, not_false_eq_true, false_implies, and_true, true_and, implies_true, and_self]
          refine ih (i + 1) _ (by omega) (by omega) (fun s hs => ?_)
          by_cases qe : s = i
          · rw [qe, pk_us]
            exact ⟨fun z => absurd rfl z, fun z => absurd (z.2 (by omega)) a⟩
          · rw [pk_un qe, q3 s hs]
            exact ⟨fun h => ⟨h.1, fun z => h.2 (by omega)⟩, fun h => ⟨h.1, fun z => h.2 (by omega)⟩⟩
theorem rx_unm (hA : rl_A n c m iv ct g st sd rc si ri IV CT NB ST SD RC SI RI) {post : SX → Prop} {x : Nat → Nat} (hx : ∀ p, p < n → LN p = nI (x p)) (h100 : ∀ p, p < n → x p ≤ 100)
    (hpost : ∀ SE', (∀ s, s < m → (¬ SE' s = 0 ↔ ¬ SE s = 0 ∧ ri s < x (rc s))) → post (nI n, nI c, nI m, vX, IV, U, CT, NB, SV, ST, SD, RC, PL, SI, RI, LN, ND, SE')) : wpX_unmarkUnsettledByLine post (nI n, nI c, nI m, vX, IV, U, CT, NB, SV, ST, SD, RC, PL, SI, RI, LN, ND, SE) := by
  simp only [wpX_unmarkUnsettledByLine]
  exact ⟨m + 1, rx_unm_l hA hx h100 hpost (m + 1) 0 SE (by omega) (by omega) (fun s hs => ⟨fun h => ⟨h, fun z => absurd z (by omega)⟩, fun h => h.1⟩)⟩
theorem rl_16 {n : Nat} (h : n ≤ 4) : 2 ^ n ≤ 16 := by
  have : n = 0 ∨ n = 1 ∨ n = 2 ∨ n = 3 ∨ n = 4 := by omega
  rcases this with e | e | e | e | e <;> subst e <;> decide
theorem rx_mns_l (hA : rl_A n c m iv ct g st sd rc si ri IV CT NB ST SD RC SI RI) {post : SX → Prop} {Ls : Int32 → Nat → Nat} (hL : ∀ T, rl_IsL n (rl_tp ct T) (rl_C m iv ct g st sd rc si ri) (Ls T)) {D : Int32}
    (hpost : ∀ LN' ND' SE', (∀ p, p < n → ∀ k, k < ct p → (¬ ND' (p * 8 + k) = 0 ↔ rl_Nd D Ls (2 ^ n) p k)) →
      (∀ s, s < m → (¬ SE' s = 0 ↔ rl_Se D (fun T p => rl_G ct g iv p (Ls T p)) st rc ri (2 ^ n) s)) → post (nI n, nI c, nI m, vX, IV, U, CT, NB, SV, ST, SD, RC, PL, SI, RI, LN', ND', SE')) :
    ∀ (fu J : Nat) (LN ND SE : Nat → Int32), 2 ^ n < fu + J → J ≤ 2 ^ n → (∀ p, p < n → ∀ k, k < ct p → (¬ ND (p * 8 + k) = 0 ↔ rl_Nd D Ls J p k)) →
      (∀ s, s < m → (¬ SE s = 0 ↔ rl_Se D (fun T p => rl_G ct g iv p (Ls T p)) st rc ri J s)) → wX_markNeededAndSettled_11 post D fu (nI J) (nI n) (nI c) (nI m) vX IV U CT NB SV ST SD RC PL SI RI LN ND SE := by
  have hA' := hA
  obtain ⟨hW, hIV, hCT, hNB, hST, hSD, hRC, hSI, hRI⟩ := hA'
  have hW' := hW
  obtain ⟨⟨⟨n2, n4⟩, ⟨c3, c8⟩, ⟨m4, m16⟩⟩, hS, hM, hB⟩ := hW'
  have h16 := rl_16 n4
  have h1n := rl_1n n2 n4
  intro fu
  induction fu with
  | zero => intro J LN ND SE q1 q2; omega
  | succ fu ih =>
    intro J LN ND SE q1 q2 q3 q4
    by_cases e : 2 ^ n ≤ J
    · have e2 : J = 2 ^ n := by omega
      simp (disch := omega) only [wX_markNeededAndSettled_11, h1n, e, forall_eq, Nat.le_refl, rl_10, rl_n10, nI_leI, nI_ltI, nI_eq, vp_in_nI, nI_clamp, nI_1, nI_add, rl_lt0, rl_0le, rl_eq0, rl_eq1, rl_eq2, rl_m1, rl_m8, rl_m100, rl_vb0, rl_vb1, true_implies, forall_const, not_true_eq_false, not_false_eq_true, false_implies, and_true, true_and, implies_true, and_self]
      rw [e2] at q3 q4
      exact hpost LN ND SE q3 q4
    · by_cases l : (nI J &&& D) = D
      · simp (disch := omega) only [wX_markNeededAndSettled_11, h1n, e, l, forall_eq, Nat.le_refl, rl_10, rl_n10, nI_leI, nI_ltI, nI_eq, vp_in_nI, nI_clamp, nI_1, nI_add, rl_lt0, rl_0le, rl_eq0, rl_eq1, rl_eq2, rl_m1, rl_m8, rl_m100, rl_vb0, rl_vb1, true_implies, forall_const, not_true_eq_false, not_false_eq_true, false_implies, and_true, true_and, implies_true, and_self]
        refine rx_find hA (hL (nI J)) (fun LN1 r1 => ?_)
        try dsimp only
        refine rx_markN hA r1 (fun p hp => Nat.le_trans ((hL (nI J)).1 p hp) (rl_tp_le ct _ p)) (fun ND1 r2 => ?_)
        try dsimp only
        refine rx_unm hA (x := fun p => rl_G ct g iv p (Ls (nI J) p)) r1 (fun p hp => rl_G_100 hS _ hp) (fun SE1 r3 => ?_)
        try dsimp only
        try simp (disch := omega) only [forall_eq, Nat.le_refl, rl_10, rl_n10, nI_leI, nI_ltI, nI_eq, vp_in_nI, nI_clamp, nI_1, nI_add, rl_lt0, rl_0le, rl_eq0, rl_eq1, rl_eq2, rl_m1, rl_m8, rl_m100, rl_vb0, rl_vb1, true_implies, forall_const, not_true_eq_false, not_false_eq_true, false_implies, and_true, true_and, implies_true, and_self]
        refine ih (J + 1) _ _ _ (by omega) (by omega) (fun p hp k hk => ?_) (fun s hs => ?_)
        · rw [r2 p hp k hk, rl_Nd_t l, q3 p hp k hk]
        · rw [r3 s hs, rl_Se_t l, q4 s hs]
      · simp (disch := omega) only [wX_markNeededAndSettled_11, h1n, e, l, forall_eq, Nat.le_refl, rl_10, rl_n10, nI_leI, nI_ltI, nI_eq, vp_in_nI, nI_clamp, nI_1, nI_add, rl_lt0, rl_0le, rl_eq0, rl_eq1, rl_eq2, rl_m1, rl_m8, rl_m100, rl_vb0, rl_vb1, true_implies, forall_const, not_true_eq_false, not_false_eq_true, false_implies, and_true, true_and, implies_true, and_self]
        refine ih (J + 1) _ _ _ (by omega) (by omega) (fun p hp k hk => ?_) (fun s hs => ?_)
        · rw [rl_Nd_f l, q3 p hp k hk]
        · rw [rl_Se_f l, q4 s hs]
theorem rx_mns (hA : rl_A n c m iv ct g st sd rc si ri IV CT NB ST SD RC SI RI) {post : SX → Prop} {Ls : Int32 → Nat → Nat} (hL : ∀ T, rl_IsL n (rl_tp ct T) (rl_C m iv ct g st sd rc si ri) (Ls T))
    (hpost : ∀ LN' ND' SE', (∀ p, p < n → ∀ k, k < ct p → (¬ ND' (p * 8 + k) = 0 ↔ rl_Nd (rl_or (rl_dn U) n) Ls (2 ^ n) p k)) →
      (∀ s, s < m → (¬ SE' s = 0 ↔ rl_Se (rl_or (rl_dn U) n) (fun T p => rl_G ct g iv p (Ls T p)) st rc ri (2 ^ n) s)) → post (nI n, nI c, nI m, vX, IV, U, CT, NB, SV, ST, SD, RC, PL, SI, RI, LN', ND', SE')) :
    wpX_markNeededAndSettled post (nI n, nI c, nI m, vX, IV, U, CT, NB, SV, ST, SD, RC, PL, SI, RI, LN, ND, SE) := by
  have hA' := hA
  obtain ⟨hW, hIV, hCT, hNB, hST, hSD, hRC, hSI, hRI⟩ := hA'
  have hW' := hW
  obtain ⟨⟨⟨n2, n4⟩, ⟨c3, c8⟩, ⟨m4, m16⟩⟩, hS, hM, hB⟩ := hW'
  simp only [wpX_markNeededAndSettled]
  refine rx_clear hA ?_
  try dsimp only
  refine rx_down n4 ?_
  try dsimp only
  refine ⟨2 ^ n + 1, rx_mns_l hA hL hpost (2 ^ n + 1) 0 LN _ _ (Nat.lt_succ_self _) (Nat.zero_le _) (fun p hp k hk => ?_) (fun s hs => ?_)⟩
  · have := (hS p hp).2.1
    rw [rl_mix_lt (by omega)]
    exact ⟨fun z => absurd rfl z, fun z => absurd z rl_Nd_0⟩
  · rw [rl_mix_lt hs, rl_Se_0]
    unfold rl_r2
    by_cases l : st s = 2
    · rw [if_pos l]; exact ⟨fun _ => l, fun _ => by decide⟩
    · rw [if_neg l]; exact ⟨fun z => absurd rfl z, fun z => absurd z l⟩
end
end
section
def rl_nd (ND : Nat → Int32) (p k : Nat) : Bool := decide (¬ ND (p * 8 + k) = 0)
/-- the flags of an array -/
def rl_nz (SE : Nat → Int32) : Nat → Bool := fun s => decide (¬ SE s = 0)
/-- the slots that are marked are emptied -/
def rl_cl (SE ST : Nat → Int32) : Nat → Int32 := fun s => if SE s = 0 then ST s else 0
theorem rl_SubEx (nd : Nat → Bool) : ∀ k, ∃ f, rl_Sub nd k (rl_cn nd k) f := by
  intro k
  induction k with
  | zero => exact ⟨fun _ => 0, rl_Sub_0 nd _⟩
  | succ k ih =>
    obtain ⟨f, hf⟩ := ih
    by_cases e : nd k = true
    · exact ⟨_, by rw [rl_cn_t e]; exact rl_Sub_t hf e⟩
    · exact ⟨_, by rw [rl_cn_f e]; exact rl_Sub_f hf e⟩
theorem rl_Sub_at {nd : Nat → Bool} {K kept k : Nat} {f : Nat → Nat} (h : rl_Sub nd K kept f) (hk : k < K) (e : nd k = true) : rl_cn nd k < kept ∧ f (rl_cn nd k) = k := by
  obtain ⟨h1, h2, h3, h4⟩ := h
  obtain ⟨j, hj, ej⟩ := h3 k hk e
  have hc : rl_cn nd (f j) = j := by
    refine rl_cn_enum (f j) j (h := f) (fun a b hab hb => h2 a b hab (by omega)) (fun a ha => h2 a j ha hj) (fun i hi => ?_)
    constructor
    · intro hn
      obtain ⟨l, hl, el⟩ := h3 i (by omega) hn
      refine ⟨l, ?_, el⟩
      rcases Nat.lt_trichotomy l j with q | q | q
      · exact q
      · rw [q] at el; omega
      · have := h2 j l q hl; omega
    · rintro ⟨l, hl, el⟩
      rw [← el]
      exact (h1 l (by omega)).2
  rw [ej] at hc
  rw [hc]
  exact ⟨hj, ej⟩
section
variable {n c m : Nat} {iv ct st sd rc si ri : Nat → Nat} {g : Nat → Nat → Nat}
variable {vX IV U CT NB SV ST SD RC PL SI RI LN ND SE : Nat → Int32}
theorem rx_drop_l {post : Int32 → SX → Prop} {p K : Nat} (hp : p < 4) (hK : K ≤ 8) {f : Nat → Nat} (hf : rl_Sub (rl_nd ND p) K (rl_cn (rl_nd ND p) K) f) {NB0 SV0 : Nat → Int32}
    (hpost : ∀ NB' SV', (∀ j, j < rl_cn (rl_nd ND p) K → NB' (p * 8 + j) = NB0 (p * 8 + f j) ∧ SV' (p * 8 + j) = SV0 (p * 8 + f j)) →
      (∀ q, (q < p * 8 ∨ p * 8 + 8 ≤ q) → NB' q = NB0 q ∧ SV' q = SV0 q) → post (nI (K - rl_cn (rl_nd ND p) K)) (nI n, nI c, nI m, vX, IV, U, upd CT p (nI (rl_cn (rl_nd ND p) K)), NB', SV', ST, SD, RC, PL, SI, RI, LN, ND, SE)) :
    ∀ (fu k : Nat) (NB SV : Nat → Int32), K < fu + k → k ≤ K → (∀ j, j < rl_cn (rl_nd ND p) k → NB (p * 8 + j) = NB0 (p * 8 + f j) ∧ SV (p * 8 + j) = SV0 (p * 8 + f j)) →
      (∀ q, (q < p * 8 ∨ p * 8 + 8 ≤ q) → NB q = NB0 q ∧ SV q = SV0 q) → (∀ j, k ≤ j → NB (p * 8 + j) = NB0 (p * 8 + j) ∧ SV (p * 8 + j) = SV0 (p * 8 + j)) →
      wX_dropUnneeded_18 post (nI p) (nI (p * 8)) (nI K) (nI n) (nI c) (nI m) fu (nI (rl_cn (rl_nd ND p) k)) (nI k) vX IV U CT NB SV ST SD RC PL SI RI LN ND SE := by
  intro fu
  induction fu with
  | zero => intro k NB SV q1 q2; omega
  | succ fu ih =>
    intro k NB SV q1 q2 q3 q4 q5
    have hc := rl_cn_le (rl_nd ND p) k
    by_cases e : K ≤ k
    · have e2 : k = K := by omega
      have hs := pk_sub (a := K) (b := rl_cn (rl_nd ND p) K) (by rw [e2] at hc; exact hc)
      rw [e2] at q3
      simp (disch := omega) only [wX_dropUnneeded_18, e, e2, hs, forall_eq, Nat.le_refl, rl_10, rl_n10, nI_leI, nI_ltI, nI_eq, vp_in_nI, nI_clamp, nI_1, nI_add, rl_lt0, rl_0le, rl_eq0, rl_eq1, rl_eq2, rl_m1, rl_m8, rl_m100, rl_vb0, rl_vb1, true_implies, forall_const, not_true_eq_false, not_false_eq_true, false_implies, and_true, true_and, implies_true, and_self]
      exact hpost NB SV q3 q4
    · have hk : k < K := by omega
      by_cases l : ND (p * 8 + k) = 0
      · have hn : ¬ rl_nd ND p k = true := fun z => (of_decide_eq_true z) l
        have := ih (k + 1) NB SV (by omega) (by omega) (by rw [rl_cn_f hn]; exact q3) q4 (fun j hj => q5 j (by omega))
        rw [rl_cn_f hn] at this
        simp (disch := omega) only [wX_dropUnneeded_18, e, l, forall_eq, Nat.le_refl, rl_10, rl_n10, nI_leI, nI_ltI, nI_eq, vp_in_nI, nI_clamp, nI_1, nI_add, rl_lt0, rl_0le, rl_eq0, rl_eq1, rl_eq2, rl_m1, rl_m8, rl_m100, rl_vb0, rl_vb1, true_implies, forall_const, not_true_eq_false, not_false_eq_true, false_implies, and_true, true_and, implies_true, and_self]
        exact this
      · have hn : rl_nd ND p k = true := decide_eq_true l
        obtain ⟨b1, b2⟩ := rl_Sub_at hf hk hn
        have := ih (k + 1) (upd NB (p * 8 + rl_cn (rl_nd ND p) k) (NB (p * 8 + k))) (upd SV (p * 8 + rl_cn (rl_nd ND p) k) (SV (p * 8 + k))) (by omega) (by omega) (fun j hj => ?_) (fun q hq => ?_) (fun j hj => ?_)
        · rw [rl_cn_t hn] at this
          simp (disch := omega) only [wX_dropUnneeded_18, e, l, forall_eq, Nat.le_refl, rl_10, rl_n10, nI_leI, nI_ltI, nI_eq, vp_in_nI, nI_clamp, nI_1, nI_add, rl_lt0, rl_0le, rl_eq0, rl_eq1, rl_eq2, rl_m1, rl_m8, rl_m100, rl_vb0, rl_vb1, true_implies, forall_const, not_true_eq_false, not_false_eq_true, false_implies, and_true, true_and, implies_true, and_self]
          exact this
        · rw [rl_cn_t hn] at hj
          by_cases qe : j = rl_cn (rl_nd ND p) k
          · rw [qe, pk_us, pk_us, b2]
            exact q5 k (Nat.le_refl _)
          · rw [pk_un (by omega), pk_un (by omega)]
            exact q3 j (by omega)
        · rw [pk_un (by omega), pk_un (by omega)]
          exact q4 q hq
        · rw [pk_un (by omega), pk_un (by omega)]
          exact q5 j (by omega)
theorem rx_drop {post : Int32 → SX → Prop} {p K : Nat} (hp : p < 4) (hK : K ≤ 8) (hct : CT p = nI K) {f : Nat → Nat} (hf : rl_Sub (rl_nd ND p) K (rl_cn (rl_nd ND p) K) f)
    (hpost : ∀ NB' SV', (∀ j, j < rl_cn (rl_nd ND p) K → NB' (p * 8 + j) = NB (p * 8 + f j) ∧ SV' (p * 8 + j) = SV (p * 8 + f j)) →
      (∀ q, (q < p * 8 ∨ p * 8 + 8 ≤ q) → NB' q = NB q ∧ SV' q = SV q) → post (nI (K - rl_cn (rl_nd ND p) K)) (nI n, nI c, nI m, vX, IV, U, upd CT p (nI (rl_cn (rl_nd ND p) K)), NB', SV', ST, SD, RC, PL, SI, RI, LN, ND, SE)) :
    wpX_dropUnneeded post (nI n, nI c, nI m, vX, IV, U, CT, NB, SV, ST, SD, RC, PL, SI, RI, LN, ND, SE) (nI p) := by
  simp (disch := omega) only [wpX_dropUnneeded, wpX_firstCell, hct, forall_eq, Nat.le_refl, rl_10, rl_n10, nI_leI, nI_ltI, nI_eq, vp_in_nI, nI_clamp, nI_1, nI_add, rl_lt0, rl_0le, rl_eq0, rl_eq1, rl_eq2, rl_m1, rl_m8, rl_m100, rl_vb0, rl_vb1, true_implies, forall_const, not_true_eq_false, not_false_eq_true, false_implies, and_true, true_and, implies_true, and_self]
  exact ⟨K + 1, rx_drop_l hp hK hf hpost (K + 1) 0 NB SV (by omega) (by omega) (fun j hj => absurd hj (by show ¬ j < 0; omega)) (fun q _ => ⟨rfl, rfl⟩) (fun j _ => ⟨rfl, rfl⟩)⟩
theorem rx_recl2_l {post : Int32 → SX → Prop} {R : Nat} (m16 : m ≤ 16) (hpost : post (nI (100 * R + rl_cn (rl_nz SE) m)) (nI n, nI c, nI m, vX, IV, U, CT, NB, SV, rl_mix m (rl_cl SE ST) ST, SD, RC, PL, SI, RI, LN, ND, SE)) :
    ∀ (fu s : Nat), m < fu + s → s ≤ m → wX_reclaim_34 post (nI R) (nI n) (nI c) (nI m) fu (nI (rl_cn (rl_nz SE) s)) (nI s) vX IV U CT NB SV (rl_mix s (rl_cl SE ST) ST) SD RC PL SI RI LN ND SE := by
  intro fu
  induction fu with
  | zero => intro s q1 q2; omega
  | succ fu ih =>
    intro s q1 q2
    by_cases e : m ≤ s
    · have e2 : s = m := by omega
      have hm : (100 : Int32) * nI R = nI (100 * R) := pk_mul 100 R
      simp (disch := omega) only [wX_reclaim_34, e, hm, forall_eq, Nat.le_refl, rl_10, rl_n10, nI_leI, nI_ltI, nI_eq, vp_in_nI, nI_clamp, nI_1, nI_add, rl_lt0, rl_0le, rl_eq0, rl_eq1, rl_eq2, rl_m1, rl_m8, rl_m100, rl_vb0, rl_vb1, true_implies, forall_const, not_true_eq_false, not_false_eq_true, false_implies, and_true, true_and, implies_true, and_self]
      rw [e2]; exact hpost
    · have := ih (s + 1) (by omega) (by omega)
      by_cases l : SE s = 0
      · have hn : ¬ rl_nz SE s = true := fun z => (of_decide_eq_true z) l
        rw [rl_cn_f hn, ← rl_mix_k (show rl_cl SE ST s = ST s from if_pos l)] at this
        simp (disch := omega) only [wX_reclaim_34, e, l, forall_eq, Nat.le_refl, rl_10, rl_n10, nI_leI, nI_ltI, nI_eq, vp_in_nI, nI_clamp, nI_1, nI_add, rl_lt0, rl_0le, rl_eq0, rl_eq1, rl_eq2, rl_m1, rl_m8, rl_m100, rl_vb0, rl_vb1, true_implies, forall_const, not_true_eq_false, not_false_eq_true, false_implies, and_true, true_and, implies_true, and_self]
        exact this
      · have hn : rl_nz SE s = true := decide_eq_true l
        rw [rl_cn_t hn, ← rl_mix_s (show (0 : Int32) = rl_cl SE ST s from (if_neg l).symm)] at this
        simp (disch := omega) only [wX_reclaim_34, e, l, forall_eq, Nat.le_refl, rl_10, rl_n10, nI_leI, nI_ltI, nI_eq, vp_in_nI, nI_clamp, nI_1, nI_add, rl_lt0, rl_0le, rl_eq0, rl_eq1, rl_eq2, rl_m1, rl_m8, rl_m100, rl_vb0, rl_vb1, true_implies, forall_const, not_true_eq_false, not_false_eq_true, false_implies, and_true, true_and, implies_true, and_self]
        exact this
theorem rx_recl1_l {post : Int32 → SX → Prop} (n4 : n ≤ 4) (m16 : m ≤ 16) (h8 : ∀ p, p < n → ct p ≤ 8) {CT0 NB0 SV0 : Nat → Int32} (hCT : ∀ p, CT0 p = nI (ct p)) {f : Nat → Nat → Nat}
    (hf : ∀ p, p < n → rl_Sub (rl_nd ND p) (ct p) (rl_cn (rl_nd ND p) (ct p)) (f p))
    (hpost : ∀ NB' SV', (∀ p, p < n → ∀ j, j < rl_cn (rl_nd ND p) (ct p) → NB' (p * 8 + j) = NB0 (p * 8 + f p j) ∧ SV' (p * 8 + j) = SV0 (p * 8 + f p j)) →
      post (nI (100 * rl_sum (fun q => ct q - rl_cn (rl_nd ND q) (ct q)) n + rl_cn (rl_nz SE) m))
        (nI n, nI c, nI m, vX, IV, U, rl_mix n (fun q => nI (rl_cn (rl_nd ND q) (ct q))) CT0, NB', SV', rl_mix m (rl_cl SE ST) ST, SD, RC, PL, SI, RI, LN, ND, SE)) :
    ∀ (fu i : Nat) (NB SV : Nat → Int32), n < fu + i → i ≤ n →
      (∀ p, p < i → ∀ j, j < rl_cn (rl_nd ND p) (ct p) → NB (p * 8 + j) = NB0 (p * 8 + f p j) ∧ SV (p * 8 + j) = SV0 (p * 8 + f p j)) → (∀ q, i * 8 ≤ q → NB q = NB0 q ∧ SV q = SV0 q) →
      wX_reclaim_8 post fu (nI (rl_sum (fun q => ct q - rl_cn (rl_nd ND q) (ct q)) i)) (nI i) (nI n) (nI c) (nI m) vX IV U (rl_mix i (fun q => nI (rl_cn (rl_nd ND q) (ct q))) CT0) NB SV ST SD RC PL SI RI LN ND SE := by
  intro fu
  induction fu with
  | zero => intro i NB SV q1 q2; omega
  | succ fu ih =>
    intro i NB SV q1 q2 q3 q4
    by_cases e : n ≤ i
    · have e2 : i = n := by omega
      simp (disch := omega) only [wX_reclaim_8, e, forall_eq, Nat.le_refl, rl_10, rl_n10, nI_leI, nI_ltI, nI_eq, vp_in_nI, nI_clamp, nI_1, nI_add, rl_lt0, rl_0le, rl_eq0, rl_eq1, rl_eq2, rl_m1, rl_m8, rl_m100, rl_vb0, rl_vb1, true_implies, forall_const, not_true_eq_false, not_false_eq_true, false_implies, and_true, true_and, implies_true, and_self]
      rw [e2] at q3 ⊢
      have := rx_recl2_l (CT := rl_mix n (fun q => nI (rl_cn (rl_nd ND q) (ct q))) CT0) (NB := NB) (SV := SV) m16 (hpost NB SV q3) (m + 1) 0 (by omega) (by omega)
      rw [rl_mix_0] at this
      exact ⟨_, this⟩
    · have hi : i < n := by omega
      have hk := rl_cn_le (rl_nd ND i) (ct i)
      have h8i := h8 i hi
      simp (disch := omega) only [wX_reclaim_8, e, forall_eq, Nat.le_refl, rl_10, rl_n10, nI_leI, nI_ltI, nI_eq, vp_in_nI, nI_clamp, nI_1, nI_add, rl_lt0, rl_0le, rl_eq0, rl_eq1, rl_eq2, rl_m1, rl_m8, rl_m100, rl_vb0, rl_vb1, true_implies, forall_const, not_true_eq_false, not_false_eq_true, false_implies, and_true, true_and, implies_true, and_self]
      refine rx_drop (K := ct i) (f := f i) (by omega) h8i (by rw [rl_mix_ge (by omega)]; exact hCT i) (hf i hi) (fun NB1 SV1 r1 r2 => ?_)
      have := ih (i + 1) NB1 SV1 (by omega) (by omega) (fun p hp j hj => ?_) (fun q hq => ?_)
      · rw [← rl_mix_s (i := i) (a := fun q => nI (rl_cn (rl_nd ND q) (ct q))) rfl] at this
        try simp (disch := omega) only [forall_eq, Nat.le_refl, rl_10, rl_n10, nI_leI, nI_ltI, nI_eq, vp_in_nI, nI_clamp, nI_1, nI_add, rl_lt0, rl_0le, rl_eq0, rl_eq1, rl_eq2, rl_m1, rl_m8, rl_m100, rl_vb0, rl_vb1, true_implies, forall_const, not_true_eq_false, not_false_eq_true, false_implies, and_true, true_and, implies_true, and_self]
        exact this
      · by_cases pe : p = i
        · rw [pe] at hj ⊢
          obtain ⟨a1, a2⟩ := r1 j hj
          have hfj := ((hf i hi).1 j hj).1
          rw [a1, a2]
          exact q4 _ (by omega)
        · have hkp := rl_cn_le (rl_nd ND p) (ct p)
          have h8p := h8 p (by omega)
          obtain ⟨a1, a2⟩ := r2 (p * 8 + j) (by omega)
          rw [a1, a2]
          exact q3 p (by omega) j hj
      · obtain ⟨a1, a2⟩ := r2 q (by omega)
        rw [a1, a2]
        exact q4 q (by omega)
theorem rx_reclaim (hA : rl_A n c m iv ct g st sd rc si ri IV CT NB ST SD RC SI RI) {post : Int32 → SX → Prop} {Ls : Int32 → Nat → Nat} (hL : ∀ T, rl_IsL n (rl_tp ct T) (rl_C m iv ct g st sd rc si ri) (Ls T))
    (hpost : ∀ LN' ND' SE' NB' SV' (f : Nat → Nat → Nat), (∀ p, p < n → ∀ k, k < ct p → (¬ ND' (p * 8 + k) = 0 ↔ rl_Nd (rl_or (rl_dn U) n) Ls (2 ^ n) p k)) →
      (∀ s, s < m → (¬ SE' s = 0 ↔ rl_Se (rl_or (rl_dn U) n) (fun T p => rl_G ct g iv p (Ls T p)) st rc ri (2 ^ n) s)) →
      (∀ p, p < n → rl_Sub (rl_nd ND' p) (ct p) (rl_cn (rl_nd ND' p) (ct p)) (f p)) →
      (∀ p, p < n → ∀ j, j < rl_cn (rl_nd ND' p) (ct p) → NB' (p * 8 + j) = NB (p * 8 + f p j) ∧ SV' (p * 8 + j) = SV (p * 8 + f p j)) →
      post (nI (100 * rl_sum (fun q => ct q - rl_cn (rl_nd ND' q) (ct q)) n + rl_cn (rl_nz SE') m))
        (nI n, nI c, nI m, vX, IV, U, rl_mix n (fun q => nI (rl_cn (rl_nd ND' q) (ct q))) CT, NB', SV', rl_mix m (rl_cl SE' ST) ST, SD, RC, PL, SI, RI, LN', ND', SE')) :
    wpX_reclaim post (nI n, nI c, nI m, vX, IV, U, CT, NB, SV, ST, SD, RC, PL, SI, RI, LN, ND, SE) := by
  have hA' := hA
  obtain ⟨hW, hIV, hCT, hNB, hST, hSD, hRC, hSI, hRI⟩ := hA'
  have hW' := hW
  obtain ⟨⟨⟨n2, n4⟩, ⟨c3, c8⟩, ⟨m4, m16⟩⟩, hS, hM, hB⟩ := hW'
  simp only [wpX_reclaim]
  refine rx_mns hA hL (fun LN1 ND1 SE1 r1 r2 => ?_)
  try dsimp only
  have hf : ∀ p, ∃ f, rl_Sub (rl_nd ND1 p) (ct p) (rl_cn (rl_nd ND1 p) (ct p)) f := fun p => rl_SubEx _ _
  obtain ⟨f, hf⟩ := Classical.axiomOfChoice hf
  have := rx_recl1_l (ND := ND1) (SE := SE1) (LN := LN1) (ST := ST) n4 m16 (fun p hp => Nat.le_trans (hS p hp).2.1 c8) hCT (f := f) (fun p _ => hf p)
    (fun NB' SV' r3 => hpost LN1 ND1 SE1 NB' SV' f r1 r2 (fun p _ => hf p) r3) (n + 1) 0 NB SV (by omega) (by omega) (fun p hp => absurd hp (by omega)) (fun q _ => ⟨rfl, rfl⟩)
  rw [rl_mix_0] at this
  exact ⟨_, this⟩
end
end
section
/-- the state of a slot behind a recovery to x -/
def rl_rb (st sd rc si ri x : Nat → Nat) (s : Nat) : Nat :=
  if st s = 0 then 0 else if si s < x (sd s) then (if st s = 2 ∧ ¬ ri s < x (rc s) then 1 else st s) else 0
/-- the processes whose component is stored -/
def rl_rl (ct L : Nat → Nat) : Nat → Bool := fun p => decide (L p < ct p)
def rl_nf (f : Nat → Bool) (a b : Nat → Int32) : Nat → Int32 := fun p => if f p = true then a p else b p
section
variable {n c m : Nat} {iv ct st sd rc si ri : Nat → Nat} {g : Nat → Nat → Nat}
variable {vX IV U CT NB SV ST SD RC PL SI RI LN ND SE : Nat → Int32}
theorem rx_rbS (hQ : rl_Q n m sd rc si ri SD RC SI RI) {post : SX → Prop} {s : Nat} {x : Nat → Nat} (hs : s < m) (hx : ∀ p, p < n → LN p = nI (x p)) (h100 : ∀ p, p < n → x p ≤ 100)
    (hst : ST s = nI (st s)) (h2 : st s ≤ 2) (p1 : post (nI n, nI c, nI m, vX, IV, U, CT, NB, SV, upd ST s (nI (rl_rb st sd rc si ri x s)), SD, RC, PL, SI, RI, LN, ND, SE)) (p2 : rl_rb st sd rc si ri x s = st s → post (nI n, nI c, nI m, vX, IV, U, CT, NB, SV, ST, SD, RC, PL, SI, RI, LN, ND, SE)) : wpX_rollBackSlot post (nI n, nI c, nI m, vX, IV, U, CT, NB, SV, ST, SD, RC, PL, SI, RI, LN, ND, SE) (nI s) := by
  have m16 := hQ.2.1
  have h10 : ¬ (1 : Int32) = 0 := by decide
  by_cases e : st s = 0
  · simp (disch := omega) only [wpX_rollBackSlot, hst, e, forall_eq, Nat.le_refl, rl_10, rl_n10, nI_leI, nI_ltI, nI_eq, vp_in_nI, nI_clamp, nI_1, nI_add, rl_lt0, rl_0le, rl_eq0, rl_eq1, rl_eq2, rl_m1, rl_m8, rl_m100, rl_vb0, rl_vb1, true_implies, forall_const, not_true_eq_false, not_false_eq_true, false_implies, and_true, true_and, implies_true, and_self]
    exact p2 (by unfold rl_rb; rw [if_pos e, e])
  · simp (disch := omega) only [wpX_rollBackSlot, hst, e, forall_eq, Nat.le_refl, rl_10, rl_n10, nI_leI, nI_ltI, nI_eq, vp_in_nI, nI_clamp, nI_1, nI_add, rl_lt0, rl_0le, rl_eq0, rl_eq1, rl_eq2, rl_m1, rl_m8, rl_m100, rl_vb0, rl_vb1, true_implies, forall_const, not_true_eq_false, not_false_eq_true, false_implies, and_true, true_and, implies_true, and_self]
    refine rx_sendInc hQ hs hx h100 (fun a => ?_) (fun a => ?_)
    · by_cases l : st s = 2
      · simp (disch := omega) only [h10, hst, l, forall_eq, Nat.le_refl, rl_10, rl_n10, nI_leI, nI_ltI, nI_eq, vp_in_nI, nI_clamp, nI_1, nI_add, rl_lt0, rl_0le, rl_eq0, rl_eq1, rl_eq2, rl_m1, rl_m8, rl_m100, rl_vb0, rl_vb1, true_implies, forall_const, not_true_eq_false, not_false_eq_true, false_implies, and_true, true_and, implies_true, and_self]
        refine rx_recInc hQ hs hx h100 (fun b => ?_) (fun b => ?_)
        · simp (disch := omega) only [h10, forall_eq, Nat.le_refl, rl_10, rl_n10, nI_leI, nI_ltI, nI_eq, vp_in_nI, nI_clamp, nI_1, nI_add, rl_lt0, rl_0le, rl_eq0, rl_eq1, rl_eq2, rl_m1, rl_m8, rl_m100, rl_vb0, rl_vb1, true_implies, forall_const, not_true_eq_false, not_false_eq_true, false_implies, and_true, true_and, implies_true, and_self]
          refine p2 ?_
          unfold rl_rb
          rw [if_neg e, if_pos a, if_neg (fun z => z.2 b)]
        · have e1 : rl_rb st sd rc si ri x s = 1 := by
            unfold rl_rb
            rw [if_neg e, if_pos a, if_pos ⟨l, b⟩]
          rw [e1] at p1
          try simp (disch := omega) only [forall_eq, Nat.le_refl, rl_10, rl_n10, nI_leI, nI_ltI, nI_eq, vp_in_nI, nI_clamp, nI_1, nI_add, rl_lt0, rl_0le, rl_eq0, rl_eq1, rl_eq2, rl_m1, rl_m8, rl_m100, rl_vb0, rl_vb1, true_implies, forall_const, not_true_eq_false, not_false_eq_true, false_implies, and_true, true_and, implies_true, and_self]
          exact p1
      · simp (disch := omega) only [h10, hst, l, forall_eq, Nat.le_refl, rl_10, rl_n10, nI_leI, nI_ltI, nI_eq, vp_in_nI, nI_clamp, nI_1, nI_add, rl_lt0, rl_0le, rl_eq0, rl_eq1, rl_eq2, rl_m1, rl_m8, rl_m100, rl_vb0, rl_vb1, true_implies, forall_const, not_true_eq_false, not_false_eq_true, false_implies, and_true, true_and, implies_true, and_self]
        refine p2 ?_
        unfold rl_rb
        rw [if_neg e, if_pos a, if_neg (fun z => l z.1)]
    · have e1 : rl_rb st sd rc si ri x s = 0 := by
        unfold rl_rb
        rw [if_neg e, if_neg a]
      rw [e1] at p1
      try simp (disch := omega) only [forall_eq, Nat.le_refl, rl_10, rl_n10, nI_leI, nI_ltI, nI_eq, vp_in_nI, nI_clamp, nI_1, nI_add, rl_lt0, rl_0le, rl_eq0, rl_eq1, rl_eq2, rl_m1, rl_m8, rl_m100, rl_vb0, rl_vb1, true_implies, forall_const, not_true_eq_false, not_false_eq_true, false_implies, and_true, true_and, implies_true, and_self]
      exact p1
theorem rx_rbP {post : SX → Prop} {p K κ : Nat} {gp : Nat → Nat} (hp : p < 4) (hK : K ≤ 8) (hct : CT p = nI K) (hnb : ∀ k, k < K → NB (p * 8 + k) = nI (gp k)) (hκ : κ < K)
    (h99 : ∀ k, k < K → gp k ≤ 99) (hinj : ∀ k, k < K → gp k = gp κ → k = κ) (hl : LN p = nI (gp κ))
    (hpost : post (nI n, nI c, nI m, upd vX p (SV (p * 8 + κ)), upd IV p (nI (gp κ)), U, upd CT p (nI (κ + 1)), NB, SV, ST, SD, RC, PL, SI, RI, LN, ND, SE)) : wpX_rollBackProcess post (nI n, nI c, nI m, vX, IV, U, CT, NB, SV, ST, SD, RC, PL, SI, RI, LN, ND, SE) (nI p) := by
  simp (disch := omega) only [wpX_rollBackProcess, forall_eq, Nat.le_refl, rl_10, rl_n10, nI_leI, nI_ltI, nI_eq, vp_in_nI, nI_clamp, nI_1, nI_add, rl_lt0, rl_0le, rl_eq0, rl_eq1, rl_eq2, rl_m1, rl_m8, rl_m100, rl_vb0, rl_vb1, true_implies, forall_const, not_true_eq_false, not_false_eq_true, false_implies, and_true, true_and, implies_true, and_self]
  refine rx_cellOf hp hK hct hnb (fun k hk ek => ?_) (fun ek => ?_)
  · rw [hl] at ek
    have a1 := h99 k hk
    have a2 := h99 κ hκ
    have e1 : k = κ := hinj k hk ((nI_eq (by omega) (by omega)).mp ek)
    have hne := rl_ne4 (a := p * 8 + κ) (by omega)
    have hsub : nI (p * 8 + κ) - nI (p * 8) = nI κ := by
      rw [pk_sub (by omega)]
      congr 1
      omega
    have hn := hnb κ hκ
    simp (disch := omega) only [hne, wpX_firstCell, e1, hsub, hn, forall_eq, Nat.le_refl, rl_10, rl_n10, nI_leI, nI_ltI, nI_eq, vp_in_nI, nI_clamp, nI_1, nI_add, rl_lt0, rl_0le, rl_eq0, rl_eq1, rl_eq2, rl_m1, rl_m8, rl_m100, rl_vb0, rl_vb1, true_implies, forall_const, not_true_eq_false, not_false_eq_true, false_implies, and_true, true_and, implies_true, and_self]
    exact hpost
  · exact absurd hl.symm (ek κ hκ)
theorem rx_reco2_l (hA : rl_A n c m iv ct g st sd rc si ri IV CT NB ST SD RC SI RI) {post : Int32 → SX → Prop} {L : Nat → Nat} (hx : ∀ p, p < n → LN p = nI (rl_G ct g iv p (L p))) (hle : rl_le n L ct) {ST1 : Nat → Int32}
    (hpost : post (rl_or (rl_rl ct L) n) (nI n, nI c, nI m, rl_mix n (rl_nf (rl_rl ct L) (fun p => SV (p * 8 + L p)) vX) vX, rl_mix n (rl_nf (rl_rl ct L) (fun p => nI (g p (L p))) IV) IV, rl_mix n (fun _ => 1) U, rl_mix n (rl_nf (rl_rl ct L) (fun p => nI (L p + 1)) CT) CT, NB, SV, ST1, SD, RC, PL, SI, RI, LN, ND, SE)) :
    ∀ (fu i : Nat), n < fu + i → i ≤ n → wX_recover_41 post fu (rl_or (rl_rl ct L) i) (nI i)
      (nI n) (nI c) (nI m) (rl_mix i (rl_nf (rl_rl ct L) (fun p => SV (p * 8 + L p)) vX) vX) (rl_mix i (rl_nf (rl_rl ct L) (fun p => nI (g p (L p))) IV) IV) (rl_mix i (fun _ => 1) U) (rl_mix i (rl_nf (rl_rl ct L) (fun p => nI (L p + 1)) CT) CT) NB SV ST1 SD RC PL SI RI LN ND SE := by
  have hA' := hA
  obtain ⟨hW, hIV, hCT, hNB, hST, hSD, hRC, hSI, hRI⟩ := hA'
  have hW' := hW
  obtain ⟨⟨⟨n2, n4⟩, ⟨c3, c8⟩, ⟨m4, m16⟩⟩, hS, hM, hB⟩ := hW'
  intro fu
  induction fu with
  | zero => intro i q1 q2; omega
  | succ fu ih =>
    intro i q1 q2
    by_cases e : n ≤ i
    · have e2 : i = n := by omega
      simp (disch := omega) only [wX_recover_41, e, forall_eq, Nat.le_refl, rl_10, rl_n10, nI_leI, nI_ltI, nI_eq, vp_in_nI, nI_clamp, nI_1, nI_add, rl_lt0, rl_0le, rl_eq0, rl_eq1, rl_eq2, rl_m1, rl_m8, rl_m100, rl_vb0, rl_vb1, true_implies, forall_const, not_true_eq_false, not_false_eq_true, false_implies, and_true, true_and, implies_true, and_self]
      rw [e2]; exact hpost
    · have hi : i < n := by omega
      obtain ⟨s1, s2, s3, s4, s5⟩ := hS i hi
      have hG := rl_G_100 hS (L i) hi
      have hLi := hle i hi
      have := ih (i + 1) (by omega) (by omega)
      simp (disch := omega) only [wX_recover_41, e, forall_eq, Nat.le_refl, rl_10, rl_n10, nI_leI, nI_ltI, nI_eq, vp_in_nI, nI_clamp, nI_1, nI_add, rl_lt0, rl_0le, rl_eq0, rl_eq1, rl_eq2, rl_m1, rl_m8, rl_m100, rl_vb0, rl_vb1, true_implies, forall_const, not_true_eq_false, not_false_eq_true, false_implies, and_true, true_and, implies_true, and_self]
      refine rx_isNow (v := iv i) (y := rl_G ct g iv i (L i)) (by omega) (by omega) (by omega) (by rw [rl_mix_ge (Nat.le_refl _)]; exact hIV i) (hx i hi) (fun a => ?_) (fun a => ?_)
      · have hc : ¬ L i < ct i := by
          intro z
          rw [rl_G_in z] at a
          have := s4 _ z
          omega
        have hr : ¬ rl_rl ct L i = true := fun z => hc (of_decide_eq_true z)
        have h10 : ¬ (1 : Int32) = 0 := by decide
        rw [rl_or_f hr, ← rl_mix_k (show rl_nf (rl_rl ct L) (fun p => SV (p * 8 + L p)) vX i = vX i from if_neg hr), ← rl_mix_k (show rl_nf (rl_rl ct L) (fun p => nI (g p (L p))) IV i = IV i from if_neg hr),
          ← rl_mix_k (show rl_nf (rl_rl ct L) (fun p => nI (L p + 1)) CT i = CT i from if_neg hr), ← rl_mix_s (i := i) (a := fun _ => (1 : Int32)) (x := 1) rfl] at this
        simp (disch := omega) only [h10, forall_eq, Nat.le_refl, rl_10, rl_n10, nI_leI, nI_ltI, nI_eq, vp_in_nI, nI_clamp, nI_1, nI_add, rl_lt0, rl_0le, rl_eq0, rl_eq1, rl_eq2, rl_m1, rl_m8, rl_m100, rl_vb0, rl_vb1, true_implies, forall_const, not_true_eq_false, not_false_eq_true, false_implies, and_true, true_and, implies_true, and_self]
        exact this
      · have hc : L i < ct i := by
          by_cases z : L i < ct i
          · exact z
          · rw [rl_G_now z] at a; omega
        have hr : rl_rl ct L i = true := decide_eq_true hc
        rw [rl_or_t hr, ← rl_mix_s (show SV (i * 8 + L i) = rl_nf (rl_rl ct L) (fun p => SV (p * 8 + L p)) vX i from (if_pos hr).symm), ← rl_mix_s (show nI (g i (L i)) = rl_nf (rl_rl ct L) (fun p => nI (g p (L p))) IV i from (if_pos hr).symm),
          ← rl_mix_s (show nI (L i + 1) = rl_nf (rl_rl ct L) (fun p => nI (L p + 1)) CT i from (if_pos hr).symm), ← rl_mix_s (i := i) (a := fun _ => (1 : Int32)) (x := 1) rfl] at this
        try simp (disch := omega) only [forall_eq, Nat.le_refl, rl_10, rl_n10, nI_leI, nI_ltI, nI_eq, vp_in_nI, nI_clamp, nI_1, nI_add, rl_lt0, rl_0le, rl_eq0, rl_eq1, rl_eq2, rl_m1, rl_m8, rl_m100, rl_vb0, rl_vb1, true_implies, forall_const, not_true_eq_false, not_false_eq_true, false_implies, and_true, true_and, implies_true, and_self]
        refine rx_rbP (K := ct i) (κ := L i) (gp := g i) (by omega) (by omega) (by rw [rl_mix_ge (Nat.le_refl _)]; exact hCT i) (hNB i hi) hc (fun k hk => by have := s4 k hk; omega) (fun k hk ek => ?_) (by rw [hx i hi, rl_G_in hc]) ?_
        · rcases Nat.lt_trichotomy k (L i) with z | z | z
          · have := s3 _ _ z hc; omega
          · exact z
          · have := s3 _ _ z hk; omega
        · try simp (disch := omega) only [forall_eq, Nat.le_refl, rl_10, rl_n10, nI_leI, nI_ltI, nI_eq, vp_in_nI, nI_clamp, nI_1, nI_add, rl_lt0, rl_0le, rl_eq0, rl_eq1, rl_eq2, rl_m1, rl_m8, rl_m100, rl_vb0, rl_vb1, true_implies, forall_const, not_true_eq_false, not_false_eq_true, false_implies, and_true, true_and, implies_true, and_self]
          exact this
theorem rx_reco1_l (hA : rl_A n c m iv ct g st sd rc si ri IV CT NB ST SD RC SI RI) {post : Int32 → SX → Prop} {L : Nat → Nat} (hx : ∀ p, p < n → LN p = nI (rl_G ct g iv p (L p))) (hle : rl_le n L ct)
    (hpost : post (rl_or (rl_rl ct L) n) (nI n, nI c, nI m, rl_mix n (rl_nf (rl_rl ct L) (fun p => SV (p * 8 + L p)) vX) vX, rl_mix n (rl_nf (rl_rl ct L) (fun p => nI (g p (L p))) IV) IV, rl_mix n (fun _ => 1) U, rl_mix n (rl_nf (rl_rl ct L) (fun p => nI (L p + 1)) CT) CT, NB, SV, rl_mix m (fun s => nI (rl_rb st sd rc si ri (fun p => rl_G ct g iv p (L p)) s)) ST, SD, RC, PL, SI, RI, LN, ND, SE)) :
    ∀ (fu s : Nat), m < fu + s → s ≤ m → wX_recover_18 post fu (nI s) (nI n) (nI c) (nI m) vX IV U CT NB SV (rl_mix s (fun s => nI (rl_rb st sd rc si ri (fun p => rl_G ct g iv p (L p)) s)) ST) SD RC PL SI RI LN ND SE := by
  have hA' := hA
  obtain ⟨hW, hIV, hCT, hNB, hST, hSD, hRC, hSI, hRI⟩ := hA'
  have hW' := hW
  obtain ⟨⟨⟨n2, n4⟩, ⟨c3, c8⟩, ⟨m4, m16⟩⟩, hS, hM, hB⟩ := hW'
  intro fu
  induction fu with
  | zero => intro s q1 q2; omega
  | succ fu ih =>
    intro s q1 q2
    by_cases e : m ≤ s
    · have e2 : s = m := by omega
      simp (disch := omega) only [wX_recover_18, e, forall_eq, Nat.le_refl, rl_10, rl_n10, nI_leI, nI_ltI, nI_eq, vp_in_nI, nI_clamp, nI_1, nI_add, rl_lt0, rl_0le, rl_eq0, rl_eq1, rl_eq2, rl_m1, rl_m8, rl_m100, rl_vb0, rl_vb1, true_implies, forall_const, not_true_eq_false, not_false_eq_true, false_implies, and_true, true_and, implies_true, and_self]
      rw [e2]
      have := rx_reco2_l hA hx hle hpost (n + 1) 0 (by omega) (by omega)
      rw [rl_mix_0, rl_mix_0, rl_mix_0, rl_mix_0] at this
      exact ⟨_, this⟩
    · have hs : s < m := by omega
      have := ih (s + 1) (by omega) (by omega)
      simp (disch := omega) only [wX_recover_18, e, forall_eq, Nat.le_refl, rl_10, rl_n10, nI_leI, nI_ltI, nI_eq, vp_in_nI, nI_clamp, nI_1, nI_add, rl_lt0, rl_0le, rl_eq0, rl_eq1, rl_eq2, rl_m1, rl_m8, rl_m100, rl_vb0, rl_vb1, true_implies, forall_const, not_true_eq_false, not_false_eq_true, false_implies, and_true, true_and, implies_true, and_self]
      refine rx_rbS (rl_Q_of hA) (st := st) (x := fun p => rl_G ct g iv p (L p)) hs hx (fun p hp => rl_G_100 hS _ hp) (by rw [rl_mix_ge (Nat.le_refl _)]; exact hST s) (hM.1 s).1 ?_ (fun hk => ?_)
      · rw [← rl_mix_s (i := s) (a := fun s => nI (rl_rb st sd rc si ri (fun p => rl_G ct g iv p (L p)) s)) rfl] at this
        try simp (disch := omega) only [forall_eq, Nat.le_refl, rl_10, rl_n10, nI_leI, nI_ltI, nI_eq, vp_in_nI, nI_clamp, nI_1, nI_add, rl_lt0, rl_0le, rl_eq0, rl_eq1, rl_eq2, rl_m1, rl_m8, rl_m100, rl_vb0, rl_vb1, true_implies, forall_const, not_true_eq_false, not_false_eq_true, false_implies, and_true, true_and, implies_true, and_self]
        exact this
      · rw [← rl_mix_k (i := s) (a := fun s => nI (rl_rb st sd rc si ri (fun p => rl_G ct g iv p (L p)) s)) (show nI (rl_rb st sd rc si ri (fun p => rl_G ct g iv p (L p)) s) = ST s by rw [hk, hST])] at this
        try simp (disch := omega) only [forall_eq, Nat.le_refl, rl_10, rl_n10, nI_leI, nI_ltI, nI_eq, vp_in_nI, nI_clamp, nI_1, nI_add, rl_lt0, rl_0le, rl_eq0, rl_eq1, rl_eq2, rl_m1, rl_m8, rl_m100, rl_vb0, rl_vb1, true_implies, forall_const, not_true_eq_false, not_false_eq_true, false_implies, and_true, true_and, implies_true, and_self]
        exact this
theorem rx_recover (hA : rl_A n c m iv ct g st sd rc si ri IV CT NB ST SD RC SI RI) {post : Int32 → SX → Prop} {L : Nat → Nat} (hL : rl_IsL n (rl_tp ct (rl_or (rl_dn U) n)) (rl_C m iv ct g st sd rc si ri) L) (h0 : rl_or (rl_dn U) n = 0 → post 0 (nI n, nI c, nI m, vX, IV, U, CT, NB, SV, ST, SD, RC, PL, SI, RI, LN, ND, SE))
    (h1 : ¬ rl_or (rl_dn U) n = 0 → ∀ LN', post (rl_or (rl_rl ct L) n) (nI n, nI c, nI m, rl_mix n (rl_nf (rl_rl ct L) (fun p => SV (p * 8 + L p)) vX) vX, rl_mix n (rl_nf (rl_rl ct L) (fun p => nI (g p (L p))) IV) IV, rl_mix n (fun _ => 1) U, rl_mix n (rl_nf (rl_rl ct L) (fun p => nI (L p + 1)) CT) CT, NB, SV, rl_mix m (fun s => nI (rl_rb st sd rc si ri (fun p => rl_G ct g iv p (L p)) s)) ST, SD, RC, PL, SI, RI, LN', ND, SE)) :
    wpX_recover post (nI n, nI c, nI m, vX, IV, U, CT, NB, SV, ST, SD, RC, PL, SI, RI, LN, ND, SE) := by
  have hA' := hA
  obtain ⟨hW, hIV, hCT, hNB, hST, hSD, hRC, hSI, hRI⟩ := hA'
  have hW' := hW
  obtain ⟨⟨⟨n2, n4⟩, ⟨c3, c8⟩, ⟨m4, m16⟩⟩, hS, hM, hB⟩ := hW'
  simp only [wpX_recover]
  refine rx_down n4 ?_
  try dsimp only
  by_cases e : rl_or (rl_dn U) n = 0
  · simp (disch := omega) only [e, forall_eq, Nat.le_refl, rl_10, rl_n10, nI_leI, nI_ltI, nI_eq, vp_in_nI, nI_clamp, nI_1, nI_add, rl_lt0, rl_0le, rl_eq0, rl_eq1, rl_eq2, rl_m1, rl_m8, rl_m100, rl_vb0, rl_vb1, true_implies, forall_const, not_true_eq_false, not_false_eq_true, false_implies, and_true, true_and, implies_true, and_self]
    exact h0 e
  · simp (disch := omega) only [e, forall_eq, Nat.le_refl, rl_10, rl_n10, nI_leI, nI_ltI, nI_eq, vp_in_nI, nI_clamp, nI_1, nI_add, rl_lt0, rl_0le, rl_eq0, rl_eq1, rl_eq2, rl_m1, rl_m8, rl_m100, rl_vb0, rl_vb1, true_implies, forall_const, not_true_eq_false, not_false_eq_true, false_implies, and_true, true_and, implies_true, and_self]
    refine rx_find hA hL (fun LN1 r1 => ?_)
    try dsimp only
    have := rx_reco1_l hA r1 (fun p hp => Nat.le_trans (hL.1 p hp) (rl_tp_le ct _ p)) (h1 e LN1) (m + 1) 0 (by omega) (by omega)
    rw [rl_mix_0] at this
    exact ⟨_, this⟩
end
end
section
section
variable {n c m : Nat} {iv ct st sd rc si ri : Nat → Nat} {g : Nat → Nat → Nat}
variable {vY IV U TB TS ST SD RC PL SI RI CP KP SL : Nat → Int32}
theorem ry_bad {post : Int32 → Prop} {p : Nat} (hp : p < n) (n4 : n ≤ 4) (k : post 0) : wpY_bad post (nI n, nI c, nI m, vY, IV, U, TB, TS, ST, SD, RC, PL, SI, RI, CP, KP, SL) (nI p) := by
  simp (disch := omega) only [wpY_bad, hp, forall_eq, Nat.le_refl, rl_10, rl_n10, nI_leI, nI_ltI, nI_eq, vp_in_nI, nI_clamp, nI_1, nI_add, rl_lt0, rl_0le, rl_eq0, rl_eq1, rl_eq2, rl_m1, rl_m8, rl_m100, rl_vb0, rl_vb1, true_implies, forall_const, not_true_eq_false, not_false_eq_true, false_implies, and_true, true_and, implies_true, and_self]
  exact k
theorem ry_badN {post : Int32 → Prop} {x : Int32} (h : x < 0) (k : post 1) : wpY_bad post (nI n, nI c, nI m, vY, IV, U, TB, TS, ST, SD, RC, PL, SI, RI, CP, KP, SL) x := by
  simp only [wpY_bad, h, forall_eq, Nat.le_refl, rl_10, rl_n10, nI_leI, nI_ltI, nI_eq, vp_in_nI, nI_clamp, nI_1, nI_add, rl_lt0, rl_0le, rl_eq0, rl_eq1, rl_eq2, rl_m1, rl_m8, rl_m100, rl_vb0, rl_vb1, true_implies, forall_const, not_true_eq_false, not_false_eq_true, false_implies, and_true, true_and, implies_true, and_self]
  exact k
theorem ry_badG {post : Int32 → Prop} {x : Int32} (h : nI n ≤ x) (k : post 1) : wpY_bad post (nI n, nI c, nI m, vY, IV, U, TB, TS, ST, SD, RC, PL, SI, RI, CP, KP, SL) x := by
  have h' : ¬ x < nI n := Int32.not_lt.mpr h
  simp only [wpY_bad, h', forall_eq, Nat.le_refl, rl_10, rl_n10, nI_leI, nI_ltI, nI_eq, vp_in_nI, nI_clamp, nI_1, nI_add, rl_lt0, rl_0le, rl_eq0, rl_eq1, rl_eq2, rl_m1, rl_m8, rl_m100, rl_vb0, rl_vb1, true_implies, forall_const, not_true_eq_false, not_false_eq_true, false_implies, and_true, true_and, implies_true, and_self]
  exact ⟨fun _ => k, fun _ => k⟩
theorem ry_badS {post : Int32 → Prop} {p : Nat} (hp : p < m) (n4 : m ≤ 16) (k : post 0) : wpY_badSlot post (nI n, nI c, nI m, vY, IV, U, TB, TS, ST, SD, RC, PL, SI, RI, CP, KP, SL) (nI p) := by
  simp (disch := omega) only [wpY_badSlot, hp, forall_eq, Nat.le_refl, rl_10, rl_n10, nI_leI, nI_ltI, nI_eq, vp_in_nI, nI_clamp, nI_1, nI_add, rl_lt0, rl_0le, rl_eq0, rl_eq1, rl_eq2, rl_m1, rl_m8, rl_m100, rl_vb0, rl_vb1, true_implies, forall_const, not_true_eq_false, not_false_eq_true, false_implies, and_true, true_and, implies_true, and_self]
  exact k
theorem ry_badSN {post : Int32 → Prop} {x : Int32} (h : x < 0) (k : post 1) : wpY_badSlot post (nI n, nI c, nI m, vY, IV, U, TB, TS, ST, SD, RC, PL, SI, RI, CP, KP, SL) x := by
  simp only [wpY_badSlot, h, forall_eq, Nat.le_refl, rl_10, rl_n10, nI_leI, nI_ltI, nI_eq, vp_in_nI, nI_clamp, nI_1, nI_add, rl_lt0, rl_0le, rl_eq0, rl_eq1, rl_eq2, rl_m1, rl_m8, rl_m100, rl_vb0, rl_vb1, true_implies, forall_const, not_true_eq_false, not_false_eq_true, false_implies, and_true, true_and, implies_true, and_self]
  exact k
theorem ry_badSG {post : Int32 → Prop} {x : Int32} (h : nI m ≤ x) (k : post 1) : wpY_badSlot post (nI n, nI c, nI m, vY, IV, U, TB, TS, ST, SD, RC, PL, SI, RI, CP, KP, SL) x := by
  have h' : ¬ x < nI m := Int32.not_lt.mpr h
  simp only [wpY_badSlot, h', forall_eq, Nat.le_refl, rl_10, rl_n10, nI_leI, nI_ltI, nI_eq, vp_in_nI, nI_clamp, nI_1, nI_add, rl_lt0, rl_0le, rl_eq0, rl_eq1, rl_eq2, rl_m1, rl_m8, rl_m100, rl_vb0, rl_vb1, true_implies, forall_const, not_true_eq_false, not_false_eq_true, false_implies, and_true, true_and, implies_true, and_self]
  exact ⟨fun _ => k, fun _ => k⟩
theorem ry_isSt {post : Int32 → Prop} {p i : Nat} (hp : p < 4) (hi : i < 100) (h1 : ¬ TB (p * 100 + i) = 0 → post 1) (h0 : TB (p * 100 + i) = 0 → post 0) :
    wpY_isStored post (nI n, nI c, nI m, vY, IV, U, TB, TS, ST, SD, RC, PL, SI, RI, CP, KP, SL) (nI p) (nI i) := by
  have e1 : i ≤ 99 := by omega
  have e2 : ¬ 99 < i := by omega
  by_cases e : TB (p * 100 + i) = 0
  · simp (disch := omega) only [wpY_isStored, rl_99l, rl_99g, e1, e2, e, forall_eq, Nat.le_refl, rl_10, rl_n10, nI_leI, nI_ltI, nI_eq, vp_in_nI, nI_clamp, nI_1, nI_add, rl_lt0, rl_0le, rl_eq0, rl_eq1, rl_eq2, rl_m1, rl_m8, rl_m100, rl_vb0, rl_vb1, true_implies, forall_const, not_true_eq_false, not_false_eq_true, false_implies, and_true, true_and, implies_true, and_self]
    exact h0 e
  · simp (disch := omega) only [wpY_isStored, rl_99l, rl_99g, e1, e2, e, forall_eq, Nat.le_refl, rl_10, rl_n10, nI_leI, nI_ltI, nI_eq, vp_in_nI, nI_clamp, nI_1, nI_add, rl_lt0, rl_0le, rl_eq0, rl_eq1, rl_eq2, rl_m1, rl_m8, rl_m100, rl_vb0, rl_vb1, true_implies, forall_const, not_true_eq_false, not_false_eq_true, false_implies, and_true, true_and, implies_true, and_self]
    exact h1 e
theorem ry_down_l {post : Int32 → Prop} (n4 : n ≤ 4) (hpost : post (rl_ad (rl_dn U) n)) :
    ∀ (fu p : Nat), n < fu + p → p ≤ n → wY_downSet_4 post (nI n) (nI c) (nI m) vY IV U TB TS ST SD RC PL SI RI CP KP SL fu (rl_ad (rl_dn U) p) (nI p) := by
  intro fu
  induction fu with
  | zero => intro p q1 q2; omega
  | succ fu ih =>
    intro p q1 q2
    by_cases e : n ≤ p
    · have e2 : p = n := by omega
      simp (disch := omega) only [wY_downSet_4, e, forall_eq, Nat.le_refl, rl_10, rl_n10, nI_leI, nI_ltI, nI_eq, vp_in_nI, nI_clamp, nI_1, nI_add, rl_lt0, rl_0le, rl_eq0, rl_eq1, rl_eq2, rl_m1, rl_m8, rl_m100, rl_vb0, rl_vb1, true_implies, forall_const, not_true_eq_false, not_false_eq_true, false_implies, and_true, true_and, implies_true, and_self]
      rw [e2]; exact hpost
    · have h4 : p < 4 := by omega
      by_cases l : U p = 0
      · have hd : rl_dn U p = true := decide_eq_true l
        simp (disch := omega) only [wY_downSet_4, e, l, forall_eq, Nat.le_refl, rl_10, rl_n10, nI_leI, nI_ltI, nI_eq, vp_in_nI, nI_clamp, nI_1, nI_add, rl_lt0, rl_0le, rl_eq0, rl_eq1, rl_eq2, rl_m1, rl_m8, rl_m100, rl_vb0, rl_vb1, true_implies, forall_const, not_true_eq_false, not_false_eq_true, false_implies, and_true, true_and, implies_true, and_self]
        have := ih (p + 1) (by omega) (by omega)
        rw [rl_ad_t hd] at this
        exact this
      · have hd : ¬ rl_dn U p = true := fun z => l (of_decide_eq_true z)
        simp (disch := omega) only [wY_downSet_4, e, l, forall_eq, Nat.le_refl, rl_10, rl_n10, nI_leI, nI_ltI, nI_eq, vp_in_nI, nI_clamp, nI_1, nI_add, rl_lt0, rl_0le, rl_eq0, rl_eq1, rl_eq2, rl_m1, rl_m8, rl_m100, rl_vb0, rl_vb1, true_implies, forall_const, not_true_eq_false, not_false_eq_true, false_implies, and_true, true_and, implies_true, and_self]
        have := ih (p + 1) (by omega) (by omega)
        rw [rl_ad_f hd] at this
        exact this
theorem ry_down {post : Int32 → Prop} (n2 : 2 ≤ n) (n4 : n ≤ 4) (hpost : post (rl_or (rl_dn U) n)) : wpY_downSet post (nI n, nI c, nI m, vY, IV, U, TB, TS, ST, SD, RC, PL, SI, RI, CP, KP, SL) := by
  simp only [wpY_downSet]
  rw [rl_orad _ n2 n4] at hpost
  exact ⟨n + 1, ry_down_l n4 hpost (n + 1) 0 (by omega) (by omega)⟩
theorem ry_lower_l (hB : rl_AY n c m iv ct g st sd rc si ri IV TB ST SD RC SI RI) {post : Int32 → Prop} {p k : Nat} (hp : p < n) (hk : k ≤ ct p) (h0 : k = 0 → post (-1)) (h1 : ∀ j, k = j + 1 → post (nI (rl_G ct g iv p j))) :
    ∀ (fu r : Nat) (x : Int32), r < fu → r ≤ rl_G ct g iv p k → (∀ j, j < ct p → r ≤ g p j → g p j < rl_G ct g iv p k → False) → x = nI r - 1 →
      wY_lower_4 post (nI p) (nI n) (nI c) (nI m) vY IV U TB TS ST SD RC PL SI RI CP KP SL fu x := by
  have hB' := hB
  obtain ⟨hW, hIV, hT, hST, hSD, hRC, hSI, hRI⟩ := hB'
  have hW' := hW
  obtain ⟨⟨⟨n2, n4⟩, ⟨c3, c8⟩, ⟨m4, m16⟩⟩, hS, hM, _⟩ := hW'
  have h100 := rl_G_100 hS k hp
  intro fu
  induction fu with
  | zero => intro r x q1; omega
  | succ fu ih =>
    intro r x q1 q2 q3 q4
    cases r with
    | zero =>
      have hx : x < 0 := by rw [q4]; decide
      have hk0 : k = 0 := by
        by_cases z : k = 0
        · exact z
        · exfalso
          have hk1 : k - 1 < ct p := by omega
          have := rl_G_lt hS hp (j := k - 1) (k := k) (by omega) hk
          rw [rl_G_in hk1] at this
          exact q3 (k - 1) hk1 (by omega) this
      simp (disch := omega) only [wY_lower_4, hx, forall_eq, Nat.le_refl, rl_10, rl_n10, nI_leI, nI_ltI, nI_eq, vp_in_nI, nI_clamp, nI_1, nI_add, rl_lt0, rl_0le, rl_eq0, rl_eq1, rl_eq2, rl_m1, rl_m8, rl_m100, rl_vb0, rl_vb1, true_implies, forall_const, not_true_eq_false, not_false_eq_true, false_implies, and_true, true_and, implies_true, and_self]
      exact h0 hk0
    | succ i =>
      have hx : x = nI i := by rw [q4]; exact nI_pred i
      rw [hx]
      simp (disch := omega) only [wY_lower_4, forall_eq, Nat.le_refl, rl_10, rl_n10, nI_leI, nI_ltI, nI_eq, vp_in_nI, nI_clamp, nI_1, nI_add, rl_lt0, rl_0le, rl_eq0, rl_eq1, rl_eq2, rl_m1, rl_m8, rl_m100, rl_vb0, rl_vb1, true_implies, forall_const, not_true_eq_false, not_false_eq_true, false_implies, and_true, true_and, implies_true, and_self]
      refine ry_isSt (by omega) (by omega) (fun a => ?_) (fun a => ?_)
      · obtain ⟨j, hj, ej⟩ := (hT p hp i (by omega)).mp a
        have hjk : j < k := by
          by_cases z : j < k
          · exact z
          · exfalso
            have := rl_G_le hS hp (j := k) (k := j) (by omega) (by omega)
            rw [rl_G_in hj] at this
            omega
        have hjk2 : k = j + 1 := by
          by_cases z : k = j + 1
          · exact z
          · exfalso
            have hj1 : j + 1 < ct p := by omega
            have a1 := rl_G_lt hS hp (j := j) (k := j + 1) (by omega) (by omega)
            have a2 := rl_G_lt hS hp (j := j + 1) (k := k) (by omega) hk
            rw [rl_G_in hj, rl_G_in hj1] at a1
            rw [rl_G_in hj1] at a2
            exact q3 (j + 1) hj1 (by omega) a2
        have h10 : ¬ (1 : Int32) = 0 := by decide
        simp (disch := omega) only [h10, forall_eq, Nat.le_refl, rl_10, rl_n10, nI_leI, nI_ltI, nI_eq, vp_in_nI, nI_clamp, nI_1, nI_add, rl_lt0, rl_0le, rl_eq0, rl_eq1, rl_eq2, rl_m1, rl_m8, rl_m100, rl_vb0, rl_vb1, true_implies, forall_const, not_true_eq_false, not_false_eq_true, false_implies, and_true, true_and, implies_true, and_self]
        have := h1 j hjk2
        rw [rl_G_in hj, ej] at this
        exact this
      · try simp (disch := omega) only [forall_eq, Nat.le_refl, rl_10, rl_n10, nI_leI, nI_ltI, nI_eq, vp_in_nI, nI_clamp, nI_1, nI_add, rl_lt0, rl_0le, rl_eq0, rl_eq1, rl_eq2, rl_m1, rl_m8, rl_m100, rl_vb0, rl_vb1, true_implies, forall_const, not_true_eq_false, not_false_eq_true, false_implies, and_true, true_and, implies_true, and_self]
        refine ih i _ (by omega) (by omega) (fun j hj b1 b2 => ?_) (show nI i + (-1) = nI i - 1 from ?_)
        · by_cases z : g p j = i
          · exact ((hT p hp i (by omega)).mpr ⟨j, hj, z⟩) a
          · exact q3 j hj (by omega) b2
        · exact (Int32.sub_eq_add_neg (nI i) 1).symm
theorem ry_lower (hB : rl_AY n c m iv ct g st sd rc si ri IV TB ST SD RC SI RI) {post : Int32 → Prop} {p k : Nat} (hp : p < n) (hk : k ≤ ct p) (h0 : k = 0 → post (-1)) (h1 : ∀ j, k = j + 1 → post (nI (rl_G ct g iv p j))) :
    wpY_lower post (nI n, nI c, nI m, vY, IV, U, TB, TS, ST, SD, RC, PL, SI, RI, CP, KP, SL) (nI p) (nI (rl_G ct g iv p k)) := by
  simp only [wpY_lower, forall_eq, Nat.le_refl, rl_10, rl_n10, nI_leI, nI_ltI, nI_eq, vp_in_nI, nI_clamp, nI_1, nI_add, rl_lt0, rl_0le, rl_eq0, rl_eq1, rl_eq2, rl_m1, rl_m8, rl_m100, rl_vb0, rl_vb1, true_implies, forall_const, not_true_eq_false, not_false_eq_true, false_implies, and_true, true_and, implies_true, and_self]
  exact ⟨rl_G ct g iv p k + 1, ry_lower_l hB hp hk h0 h1 _ (rl_G ct g iv p k) _ (by omega) (Nat.le_refl _) (fun j _ a b => by omega) rfl⟩
theorem ry_top (hB : rl_AY n c m iv ct g st sd rc si ri IV TB ST SD RC SI RI) {post : Int32 → Prop} {p : Nat} {T : Int32} (hp : p < n) (h : post (nI (rl_G ct g iv p (rl_tp ct T p)))) : wpY_top post (nI n, nI c, nI m, vY, IV, U, TB, TS, ST, SD, RC, PL, SI, RI, CP, KP, SL) (nI p) T := by
  have hB' := hB
  obtain ⟨hW, hIV, hT, hST, hSD, hRC, hSI, hRI⟩ := hB'
  have hW' := hW
  obtain ⟨⟨⟨n2, n4⟩, ⟨c3, c8⟩, ⟨m4, m16⟩⟩, hS, hM, _⟩ := hW'
  obtain ⟨s1, s2, s3, s4, s5⟩ := hS p hp
  by_cases l : (T &&& ((1 : Int32) <<< (nI p &&& 31))) = 0
  · have ht : rl_tp ct T p = ct p := if_pos l
    rw [ht, rl_G_now (by omega)] at h
    simp (disch := omega) only [wpY_top, l, hIV, forall_eq, Nat.le_refl, rl_10, rl_n10, nI_leI, nI_ltI, nI_eq, vp_in_nI, nI_clamp, nI_1, nI_add, rl_lt0, rl_0le, rl_eq0, rl_eq1, rl_eq2, rl_m1, rl_m8, rl_m100, rl_vb0, rl_vb1, true_implies, forall_const, not_true_eq_false, not_false_eq_true, false_implies, and_true, true_and, implies_true, and_self]
    exact h
  · have ht : rl_tp ct T p = ct p - 1 := if_neg l
    rw [ht] at h
    simp (disch := omega) only [wpY_top, l, hIV, forall_eq, Nat.le_refl, rl_10, rl_n10, nI_leI, nI_ltI, nI_eq, vp_in_nI, nI_clamp, nI_1, nI_add, rl_lt0, rl_0le, rl_eq0, rl_eq1, rl_eq2, rl_m1, rl_m8, rl_m100, rl_vb0, rl_vb1, true_implies, forall_const, not_true_eq_false, not_false_eq_true, false_implies, and_true, true_and, implies_true, and_self]
    have hG : rl_G ct g iv p (ct p) = iv p + 1 := rl_G_now (by omega)
    have := ry_lower hB (post := post) hp (k := ct p) (Nat.le_refl _) (fun z => absurd z (by omega)) (fun j hj => by
      have : ct p - 1 = j := by omega
      rw [← this]; exact h) (vY := vY) (U := U) (TS := TS) (PL := PL) (CP := CP) (KP := KP) (SL := SL)
    rw [hG] at this
    exact this
theorem ry_cons_l (hB : rl_AY n c m iv ct g st sd rc si ri IV TB ST SD RC SI RI) {post : Int32 → Prop} {κ : Nat → Nat} (hx : ∀ q, q < n → CP q = nI (rl_G ct g iv q (κ q))) (h1 : rl_C m iv ct g st sd rc si ri κ → post 1)
    (h0 : ¬ rl_C m iv ct g st sd rc si ri κ → post 0) : ∀ (fu s : Nat), m < fu + s → s ≤ m →
      (∀ j, j < s → st j = 2 → ri j < rl_G ct g iv (rc j) (κ (rc j)) → si j < rl_G ct g iv (sd j) (κ (sd j))) → wY_consistent_2 post (nI n) (nI c) (nI m) vY IV U TB TS ST SD RC PL SI RI CP KP SL fu (nI s) := by
  have hB' := hB
  obtain ⟨hW, hIV, hT, hST, hSD, hRC, hSI, hRI⟩ := hB'
  have hW' := hW
  obtain ⟨⟨⟨n2, n4⟩, ⟨c3, c8⟩, ⟨m4, m16⟩⟩, hS, hM, _⟩ := hW'
  intro fu
  induction fu with
  | zero => intro s q1 q2; omega
  | succ fu ih =>
    intro s q1 q2 q3
    by_cases e : m ≤ s
    · simp (disch := omega) only [wY_consistent_2, e, forall_eq, Nat.le_refl, rl_10, rl_n10, nI_leI, nI_ltI, nI_eq, vp_in_nI, nI_clamp, nI_1, nI_add, rl_lt0, rl_0le, rl_eq0, rl_eq1, rl_eq2, rl_m1, rl_m8, rl_m100, rl_vb0, rl_vb1, true_implies, forall_const, not_true_eq_false, not_false_eq_true, false_implies, and_true, true_and, implies_true, and_self]
      exact h1 (fun j hj => q3 j (by omega))
    · have hs : s < m := by omega
      obtain ⟨t1, t2, t3, t4, t5⟩ := hM.1 s
      have x1 := hx _ t2
      have x2 := hx _ t3
      have g1 := rl_G_100 hS (κ (sd s)) t2
      have g2 := rl_G_100 hS (κ (rc s)) t3
      have nxt : (st s = 2 → ri s < rl_G ct g iv (rc s) (κ (rc s)) → si s < rl_G ct g iv (sd s) (κ (sd s))) → wY_consistent_2 post (nI n) (nI c) (nI m) vY IV U TB TS ST SD RC PL SI RI CP KP SL fu (nI (s + 1)) := by
        intro hh
        refine ih (s + 1) (by omega) (by omega) (fun j hj => ?_)
        by_cases q : j = s
        · rw [q]; exact hh
        · exact q3 j (by omega)
      by_cases a : st s = 2
      · by_cases b : ri s < rl_G ct g iv (rc s) (κ (rc s))
        · have b2 : ¬ rl_G ct g iv (rc s) (κ (rc s)) ≤ ri s := by omega
          by_cases d : si s < rl_G ct g iv (sd s) (κ (sd s))
          · have d2 : ¬ rl_G ct g iv (sd s) (κ (sd s)) ≤ si s := by omega
            simp (disch := omega) only [wY_consistent_2, e, hST, a, hRC, hRI, hSD, hSI, x1, x2, b, b2, d, d2, forall_eq, Nat.le_refl, rl_10, rl_n10, nI_leI, nI_ltI, nI_eq, vp_in_nI, nI_clamp, nI_1, nI_add, rl_lt0, rl_0le, rl_eq0, rl_eq1, rl_eq2, rl_m1, rl_m8, rl_m100, rl_vb0, rl_vb1, true_implies, forall_const, not_true_eq_false, not_false_eq_true, false_implies, and_true, true_and, implies_true, and_self]
            exact nxt (fun _ _ => d)
          · have d2 : rl_G ct g iv (sd s) (κ (sd s)) ≤ si s := by omega
            simp (disch := omega) only [wY_consistent_2, e, hST, a, hRC, hRI, hSD, hSI, x1, x2, b, b2, d, d2, forall_eq, Nat.le_refl, rl_10, rl_n10, nI_leI, nI_ltI, nI_eq, vp_in_nI, nI_clamp, nI_1, nI_add, rl_lt0, rl_0le, rl_eq0, rl_eq1, rl_eq2, rl_m1, rl_m8, rl_m100, rl_vb0, rl_vb1, true_implies, forall_const, not_true_eq_false, not_false_eq_true, false_implies, and_true, true_and, implies_true, and_self]
            exact h0 (fun z => d (z s hs a b))
        · have b2 : rl_G ct g iv (rc s) (κ (rc s)) ≤ ri s := by omega
          simp (disch := omega) only [wY_consistent_2, e, hST, a, hRC, hRI, x2, b, b2, forall_eq, Nat.le_refl, rl_10, rl_n10, nI_leI, nI_ltI, nI_eq, vp_in_nI, nI_clamp, nI_1, nI_add, rl_lt0, rl_0le, rl_eq0, rl_eq1, rl_eq2, rl_m1, rl_m8, rl_m100, rl_vb0, rl_vb1, true_implies, forall_const, not_true_eq_false, not_false_eq_true, false_implies, and_true, true_and, implies_true, and_self]
          exact nxt (fun _ z => absurd z b)
      · simp (disch := omega) only [wY_consistent_2, e, hST, a, forall_eq, Nat.le_refl, rl_10, rl_n10, nI_leI, nI_ltI, nI_eq, vp_in_nI, nI_clamp, nI_1, nI_add, rl_lt0, rl_0le, rl_eq0, rl_eq1, rl_eq2, rl_m1, rl_m8, rl_m100, rl_vb0, rl_vb1, true_implies, forall_const, not_true_eq_false, not_false_eq_true, false_implies, and_true, true_and, implies_true, and_self]
        exact nxt (fun z => absurd z a)
theorem ry_cons (hB : rl_AY n c m iv ct g st sd rc si ri IV TB ST SD RC SI RI) {post : Int32 → Prop} {κ : Nat → Nat} (hx : ∀ q, q < n → CP q = nI (rl_G ct g iv q (κ q))) (h1 : rl_C m iv ct g st sd rc si ri κ → post 1)
    (h0 : ¬ rl_C m iv ct g st sd rc si ri κ → post 0) : wpY_consistent post (nI n, nI c, nI m, vY, IV, U, TB, TS, ST, SD, RC, PL, SI, RI, CP, KP, SL) := by
  simp only [wpY_consistent]
  exact ⟨m + 1, ry_cons_l hB hx h1 h0 (m + 1) 0 (by omega) (by omega) (fun j hj => absurd hj (by omega))⟩
end
end
section
section
variable {n c m : Nat} {iv ct st sd rc si ri : Nat → Nat} {g : Nat → Nat → Nat}
variable {vY IV U TB TS ST SD RC PL SI RI CP KP SL : Nat → Int32}
theorem ry_inner (hB : rl_AY n c m iv ct g st sd rc si ri IV TB ST SD RC SI RI) {post : SY → Prop} {J : Int32 → (Nat → Int32) → (Nat → Int32) → (Nat → Int32) → (Nat → Int32) → (Nat → Int32) → (Nat → Int32) → (Nat → Int32) → (Nat → Int32) → (Nat → Int32) → (Nat → Int32) → (Nat → Int32) → (Nat → Int32) → (Nat → Int32) → (Nat → Int32) → Prop} {T x2 : Int32} :
    ∀ (i fu : Nat) (x4 : Int32) (CP : Nat → Int32) (κ : Nat → Nat), i ≤ n → i < fu → x4 = nI i - 1 → (∀ q, q < n → CP q = nI (rl_G ct g iv q (κ q))) → rl_le n κ (rl_tp ct T) → 0 < rl_cd (rl_tp ct T) κ i →
      (∀ (CP' : Nat → Int32) (κ' : Nat → Nat), (∀ q, q < n → CP' q = nI (rl_G ct g iv q (κ' q))) → rl_le n κ' (rl_tp ct T) → (∀ q, i ≤ q → κ' q = κ q) → rl_cd (rl_tp ct T) κ' i + 1 = rl_cd (rl_tp ct T) κ i →
        J (x2 + 1) vY IV U TB TS ST SD RC PL SI RI CP' KP SL) →
      wY_line_55 post J T x2 (nI n) (nI c) (nI m) fu 0 x4 vY IV U TB TS ST SD RC PL SI RI CP KP SL := by
  have hB' := hB
  obtain ⟨hW, hIV, hT, hST, hSD, hRC, hSI, hRI⟩ := hB'
  have hW' := hW
  obtain ⟨⟨⟨n2, n4⟩, ⟨c3, c8⟩, ⟨m4, m16⟩⟩, hS, hM, _⟩ := hW'
  intro i
  induction i with
  | zero => intro fu x4 CP κ q1 q2 q3 q4 q5 q6; exact absurd q6 (by show ¬ 0 < 0; omega)
  | succ i ih =>
    intro fu x4 CP κ q1 q2 q3 q4 q5 q6 q7
    obtain ⟨fu, rfl⟩ : ∃ f, fu = f + 1 := ⟨fu - 1, by omega⟩
    have hi : i < n := by omega
    have hx : x4 = nI i := by rw [q3]; exact nI_pred i
    have hki := q5 i hi
    have htc := rl_tp_le ct T i
    have h100 : ∀ k, rl_G ct g iv i k ≤ 100 := fun k => rl_G_100 hS k hi
    have h1 := h100 (κ i)
    have hcp := q4 i hi
    have hsub : nI i + (-1) = nI i - 1 := (Int32.sub_eq_add_neg (nI i) 1).symm
    rw [hx]
    simp (disch := omega) only [wY_line_55, hcp, forall_eq, Nat.le_refl, rl_10, rl_n10, nI_leI, nI_ltI, nI_eq, vp_in_nI, nI_clamp, nI_1, nI_add, rl_lt0, rl_0le, rl_eq0, rl_eq1, rl_eq2, rl_m1, rl_m8, rl_m100, rl_vb0, rl_vb1, true_implies, forall_const, not_true_eq_false, not_false_eq_true, false_implies, and_true, true_and, implies_true, and_self]
    refine ry_lower hB hi (k := κ i) (by omega) (fun z => ?_) (fun j hj => ?_)
    · have hm1 : (-1 : Int32) < 0 := by decide
      have hm2 : ¬ (0 : Int32) ≤ -1 := by decide
      simp (disch := omega) only [hm1, hm2, forall_eq, Nat.le_refl, rl_10, rl_n10, nI_leI, nI_ltI, nI_eq, vp_in_nI, nI_clamp, nI_1, nI_add, rl_lt0, rl_0le, rl_eq0, rl_eq1, rl_eq2, rl_m1, rl_m8, rl_m100, rl_vb0, rl_vb1, true_implies, forall_const, not_true_eq_false, not_false_eq_true, false_implies, and_true, true_and, implies_true, and_self]
      refine ry_top hB hi ?_
      simp (disch := omega) only [hsub, forall_eq, Nat.le_refl, rl_10, rl_n10, nI_leI, nI_ltI, nI_eq, vp_in_nI, nI_clamp, nI_1, nI_add, rl_lt0, rl_0le, rl_eq0, rl_eq1, rl_eq2, rl_m1, rl_m8, rl_m100, rl_vb0, rl_vb1, true_implies, forall_const, not_true_eq_false, not_false_eq_true, false_implies, and_true, true_and, implies_true, and_self]
      have e1 : rl_cd (rl_tp ct T) (rl_u κ i (rl_tp ct T i)) i = rl_cd (rl_tp ct T) κ i := rl_cd_eq i (fun p hp => rl_un (by omega))
      refine ih fu _ _ (rl_u κ i (rl_tp ct T i)) (by omega) (by omega) rfl (fun q hq => ?_) (fun q hq => ?_) ?_ (fun CP' κ' r1 r2 r3 r4 => ?_)
      · by_cases qe : q = i
        · rw [qe, pk_us, rl_us]
        · rw [pk_un qe, rl_un qe]; exact q4 q hq
      · by_cases qe : q = i
        · rw [qe, rl_us]; exact Nat.le_refl _
        · rw [rl_un qe]; exact q5 q hq
      · rw [e1]; exact rl_cd_pos0 z q6
      · rw [e1] at r4
        refine q7 CP' κ' r1 r2 (fun q hq => ?_) (rl_dec_zero z (by rw [r3 i (Nat.le_refl _), rl_us]) r4)
        rw [r3 q (by omega), rl_un (by omega)]
    · have h2 := h100 j
      try simp (disch := omega) only [forall_eq, Nat.le_refl, rl_10, rl_n10, nI_leI, nI_ltI, nI_eq, vp_in_nI, nI_clamp, nI_1, nI_add, rl_lt0, rl_0le, rl_eq0, rl_eq1, rl_eq2, rl_m1, rl_m8, rl_m100, rl_vb0, rl_vb1, true_implies, forall_const, not_true_eq_false, not_false_eq_true, false_implies, and_true, true_and, implies_true, and_self]
      have hfin : J (x2 + 1) vY IV U TB TS ST SD RC PL SI RI (upd CP i (nI (rl_G ct g iv i j))) KP SL := by
        have hj' : κ i - 1 = j := by omega
        have hd := rl_dec_pos (t := rl_tp ct T) (κ := κ) (i := i) (by omega)
        rw [hj'] at hd
        refine q7 _ (rl_u κ i j) (fun q hq => ?_) (fun q hq => ?_) (fun q hq => rl_un (by omega)) hd
        · by_cases qe : q = i
          · rw [qe, pk_us, rl_us]
          · rw [pk_un qe, rl_un qe]; exact q4 q hq
        · by_cases qe : q = i
          · rw [qe, rl_us]; omega
          · rw [rl_un qe]; exact q5 q hq
      obtain ⟨fu, rfl⟩ : ∃ f, fu = f + 1 := ⟨fu - 1, by omega⟩
      have h10 : ¬ (1 : Int32) = 0 := by decide
      simp only [wY_line_55, h10, forall_eq, Nat.le_refl, rl_10, rl_n10, nI_leI, nI_ltI, nI_eq, vp_in_nI, nI_clamp, nI_1, nI_add, rl_lt0, rl_0le, rl_eq0, rl_eq1, rl_eq2, rl_m1, rl_m8, rl_m100, rl_vb0, rl_vb1, true_implies, forall_const, not_true_eq_false, not_false_eq_true, false_implies, and_true, true_and, implies_true, and_self]
      exact ⟨fun _ => hfin, fun _ => hfin⟩
theorem ry_tries (hB : rl_AY n c m iv ct g st sd rc si ri IV TB ST SD RC SI RI) {post : SY → Prop} {T : Int32} {L : Nat → Nat} (hL : rl_IsL n (rl_tp ct T) (rl_C m iv ct g st sd rc si ri) L)
    (hpost : ∀ CP', (∀ q, q < n → CP' q = nI (rl_G ct g iv q (L q))) → post (nI n, nI c, nI m, vY, IV, U, TB, TS, ST, SD, RC, PL, SI, RI, CP', KP, SL)) :
    ∀ (fu t : Nat) (CP : Nat → Int32) (κ : Nat → Nat), 6561 < fu + t → (∀ q, q < n → CP q = nI (rl_G ct g iv q (κ q))) → rl_le n κ (rl_tp ct T) → rl_cd (rl_tp ct T) L n ≤ rl_cd (rl_tp ct T) κ n →
      rl_cd (rl_tp ct T) κ n + t ≤ 6560 → wY_line_30 post T (nI n) (nI c) (nI m) fu (nI t) vY IV U TB TS ST SD RC PL SI RI CP KP SL := by
  have hB' := hB
  obtain ⟨hW, hIV, hT, hST, hSD, hRC, hSI, hRI⟩ := hB'
  have hW' := hW
  obtain ⟨⟨⟨n2, n4⟩, ⟨c3, c8⟩, ⟨m4, m16⟩⟩, hS, hM, _⟩ := hW'
  intro fu
  induction fu with
  | zero => intro t CP κ q1 q2 q3 q4 q5; omega
  | succ fu ih =>
    intro t CP κ q1 q2 q3 q4 q5
    have e : ¬ 6561 ≤ t := by omega
    have h10 : ¬ (1 : Int32) = 0 := by decide
    simp (disch := omega) only [wY_line_30, rl_6561, e, forall_eq, Nat.le_refl, rl_10, rl_n10, nI_leI, nI_ltI, nI_eq, vp_in_nI, nI_clamp, nI_1, nI_add, rl_lt0, rl_0le, rl_eq0, rl_eq1, rl_eq2, rl_m1, rl_m8, rl_m100, rl_vb0, rl_vb1, true_implies, forall_const, not_true_eq_false, not_false_eq_true, false_implies, and_true, true_and, implies_true, and_self]
    refine ry_cons hB q2 (fun a => ?_) (fun a => ?_)
    · simp (disch := omega) only [h10, forall_eq, Nat.le_refl, rl_10, rl_n10, nI_leI, nI_ltI, nI_eq, vp_in_nI, nI_clamp, nI_1, nI_add, rl_lt0, rl_0le, rl_eq0, rl_eq1, rl_eq2, rl_m1, rl_m8, rl_m100, rl_vb0, rl_vb1, true_implies, forall_const, not_true_eq_false, not_false_eq_true, false_implies, and_true, true_and, implies_true, and_self]
      have hk := rl_Y_exit hL q3 q4 a
      exact hpost CP (fun q hq => by rw [← hk q hq]; exact q2 q hq)
    · have hlt := rl_Y_step hM hL q3 q4 a
      try simp (disch := omega) only [forall_eq, Nat.le_refl, rl_10, rl_n10, nI_leI, nI_ltI, nI_eq, vp_in_nI, nI_clamp, nI_1, nI_add, rl_lt0, rl_0le, rl_eq0, rl_eq1, rl_eq2, rl_m1, rl_m8, rl_m100, rl_vb0, rl_vb1, true_implies, forall_const, not_true_eq_false, not_false_eq_true, false_implies, and_true, true_and, implies_true, and_self]
      refine ⟨n + 1, ry_inner hB n (n + 1) _ CP κ (Nat.le_refl _) (by omega) rfl q2 q3 (by omega) (fun CP' κ' r1 r2 _ r4 => ?_)⟩
      try simp (disch := omega) only [forall_eq, Nat.le_refl, rl_10, rl_n10, nI_leI, nI_ltI, nI_eq, vp_in_nI, nI_clamp, nI_1, nI_add, rl_lt0, rl_0le, rl_eq0, rl_eq1, rl_eq2, rl_m1, rl_m8, rl_m100, rl_vb0, rl_vb1, true_implies, forall_const, not_true_eq_false, not_false_eq_true, false_implies, and_true, true_and, implies_true, and_self]
      exact ih (t + 1) CP' κ' (by omega) r1 r2 (by omega) (by omega)
theorem ry_line_l (hB : rl_AY n c m iv ct g st sd rc si ri IV TB ST SD RC SI RI) {post : SY → Prop} {T : Int32} {L : Nat → Nat} (hL : rl_IsL n (rl_tp ct T) (rl_C m iv ct g st sd rc si ri) L)
    (hpost : ∀ CP', (∀ q, q < n → CP' q = nI (rl_G ct g iv q (L q))) → post (nI n, nI c, nI m, vY, IV, U, TB, TS, ST, SD, RC, PL, SI, RI, CP', KP, SL)) :
    ∀ (fu p : Nat) (CP : Nat → Int32), n < fu + p → p ≤ n → (∀ q, q < p → CP q = nI (rl_G ct g iv q (rl_tp ct T q))) → wY_line_2 post T (nI n) (nI c) (nI m) fu (nI p) vY IV U TB TS ST SD RC PL SI RI CP KP SL := by
  have hB' := hB
  obtain ⟨hW, hIV, hT, hST, hSD, hRC, hSI, hRI⟩ := hB'
  have hW' := hW
  obtain ⟨⟨⟨n2, n4⟩, ⟨c3, c8⟩, ⟨m4, m16⟩⟩, hS, hM, _⟩ := hW'
  intro fu
  induction fu with
  | zero => intro p CP q1 q2; omega
  | succ fu ih =>
    intro p CP q1 q2 q3
    by_cases e : n ≤ p
    · have e2 : p = n := by omega
      rw [e2] at q3
      simp (disch := omega) only [wY_line_2, e, forall_eq, Nat.le_refl, rl_10, rl_n10, nI_leI, nI_ltI, nI_eq, vp_in_nI, nI_clamp, nI_1, nI_add, rl_lt0, rl_0le, rl_eq0, rl_eq1, rl_eq2, rl_m1, rl_m8, rl_m100, rl_vb0, rl_vb1, true_implies, forall_const, not_true_eq_false, not_false_eq_true, false_implies, and_true, true_and, implies_true, and_self]
      have hlt := rl_cd_lt (t := rl_tp ct T) (a := rl_tp ct T) n (fun p hp => by have := rl_tp_le ct T p; have := (hS p hp).2.1; omega) (fun p _ => Nat.le_refl _)
      have h9 := rl_9 n4
      exact ⟨6562, ry_tries hB hL hpost 6562 0 CP (rl_tp ct T) (by omega) q3 (fun p _ => Nat.le_refl _) (rl_cd_mono n hL.1) (by omega)⟩
    · have hp : p < n := by omega
      simp (disch := omega) only [wY_line_2, e, forall_eq, Nat.le_refl, rl_10, rl_n10, nI_leI, nI_ltI, nI_eq, vp_in_nI, nI_clamp, nI_1, nI_add, rl_lt0, rl_0le, rl_eq0, rl_eq1, rl_eq2, rl_m1, rl_m8, rl_m100, rl_vb0, rl_vb1, true_implies, forall_const, not_true_eq_false, not_false_eq_true, false_implies, and_true, true_and, implies_true, and_self]
      refine ry_top hB hp ?_
      try simp (disch := omega) only [forall_eq, Nat.le_refl, rl_10, rl_n10, nI_leI, nI_ltI, nI_eq, vp_in_nI, nI_clamp, nI_1, nI_add, rl_lt0, rl_0le, rl_eq0, rl_eq1, rl_eq2, rl_m1, rl_m8, rl_m100, rl_vb0, rl_vb1, true_implies, forall_const, not_true_eq_false, not_false_eq_true, false_implies, and_true, true_and, implies_true, and_self]
      refine ih (p + 1) _ (by omega) (by omega) (fun q hq => ?_)
      by_cases qe : q = p
      · rw [qe, pk_us]
      · rw [pk_un qe]; exact q3 q (by omega)
theorem ry_line (hB : rl_AY n c m iv ct g st sd rc si ri IV TB ST SD RC SI RI) {post : SY → Prop} {T : Int32} {L : Nat → Nat} (hL : rl_IsL n (rl_tp ct T) (rl_C m iv ct g st sd rc si ri) L)
    (hpost : ∀ CP', (∀ q, q < n → CP' q = nI (rl_G ct g iv q (L q))) → post (nI n, nI c, nI m, vY, IV, U, TB, TS, ST, SD, RC, PL, SI, RI, CP', KP, SL)) : wpY_line post (nI n, nI c, nI m, vY, IV, U, TB, TS, ST, SD, RC, PL, SI, RI, CP, KP, SL) T := by
  simp only [wpY_line]
  exact ⟨n + 1, ry_line_l hB hL hpost (n + 1) 0 CP (by omega) (by omega) (fun q hq => absurd hq (by omega))⟩
end
end
section
/-- the cells that a line (in CP) marks -/
def rl_kp (TB CP KP : Nat → Int32) : Nat → Int32 := fun j => if ¬ TB j = 0 ∧ nI (j % 100) = CP (j / 100) then 1 else KP j
/-- the slots that a line x unmarks -/
def rl_sl (st rc ri x : Nat → Nat) (SL : Nat → Int32) : Nat → Int32 := fun s => if st s = 2 ∧ ¬ ri s < x (rc s) then 0 else SL s
section
variable {n c m : Nat} {iv ct st sd rc si ri : Nat → Nat} {g : Nat → Nat → Nat}
variable {vY IV U TB TS ST SD RC PL SI RI CP KP SL : Nat → Int32}
theorem ry_jE {post : SY → Prop} {JC : Int32 → Int32 → Int32 → Int32 → (Nat → Int32) → (Nat → Int32) → (Nat → Int32) → (Nat → Int32) → (Nat → Int32) → (Nat → Int32) → (Nat → Int32) → (Nat → Int32) → (Nat → Int32) → (Nat → Int32) → (Nat → Int32) → (Nat → Int32) → (Nat → Int32) → (Nat → Int32) → Prop} {JD : Int32 → (Nat → Int32) → (Nat → Int32) → (Nat → Int32) → (Nat → Int32) → (Nat → Int32) → (Nat → Int32) → (Nat → Int32) → (Nat → Int32) → (Nat → Int32) → (Nat → Int32) → (Nat → Int32) → (Nat → Int32) → (Nat → Int32) → (Nat → Int32) → Prop} {x1 x2 : Int32} {p : Nat} (hp : p < 4)
    (hnext : JD (nI (p + 1)) vY IV U TB TS ST SD RC PL SI RI CP (rl_mix ((p + 1) * 100) (rl_kp TB CP KP) KP) SL) :
    ∀ (fu i : Nat), 100 < fu + i → i ≤ 100 → wY_judge_101 post JC JD x1 x2 (nI p) (nI n) (nI c) (nI m) fu (nI i) vY IV U TB TS ST SD RC PL SI RI CP (rl_mix (p * 100 + i) (rl_kp TB CP KP) KP) SL := by
  intro fu
  induction fu with
  | zero => intro i q1 q2; omega
  | succ fu ih =>
    intro i q1 q2
    by_cases e : 99 < i
    · have e2 : p * 100 + i = (p + 1) * 100 := by omega
      have e3 : ¬ i ≤ 99 := by omega
      simp (disch := omega) only [wY_judge_101, rl_99g, rl_99l, e, e3, forall_eq, Nat.le_refl, rl_10, rl_n10, nI_leI, nI_ltI, nI_eq, vp_in_nI, nI_clamp, nI_1, nI_add, rl_lt0, rl_0le, rl_eq0, rl_eq1, rl_eq2, rl_m1, rl_m8, rl_m100, rl_vb0, rl_vb1, true_implies, forall_const, not_true_eq_false, not_false_eq_true, false_implies, and_true, true_and, implies_true, and_self]
      rw [e2]
      exact hnext
    · have e3 : i ≤ 99 := by omega
      have := ih (i + 1) (by omega) (by omega)
      have d1 : (p * 100 + i) % 100 = i := by omega
      have d2 : (p * 100 + i) / 100 = p := by omega
      have ea : p * 100 + (i + 1) = (p * 100 + i) + 1 := by omega
      by_cases a : TB (p * 100 + i) = 0
      · have hk : rl_kp TB CP KP (p * 100 + i) = KP (p * 100 + i) := if_neg (fun z => z.1 a)
        rw [ea, ← rl_mix_k hk] at this
        simp (disch := omega) only [wY_judge_101, rl_99g, rl_99l, e, e3, a, forall_eq, Nat.le_refl, rl_10, rl_n10, nI_leI, nI_ltI, nI_eq, vp_in_nI, nI_clamp, nI_1, nI_add, rl_lt0, rl_0le, rl_eq0, rl_eq1, rl_eq2, rl_m1, rl_m8, rl_m100, rl_vb0, rl_vb1, true_implies, forall_const, not_true_eq_false, not_false_eq_true, false_implies, and_true, true_and, implies_true, and_self]
        exact this
      · by_cases b : nI i = CP p
        · have hk : (1 : Int32) = rl_kp TB CP KP (p * 100 + i) := by
            unfold rl_kp
            rw [d1, d2, if_pos ⟨a, b⟩]
          rw [ea, ← rl_mix_s hk] at this
          have b' := b.symm
          simp (disch := omega) only [wY_judge_101, rl_99g, rl_99l, e, e3, a, b', forall_eq, Nat.le_refl, rl_10, rl_n10, nI_leI, nI_ltI, nI_eq, vp_in_nI, nI_clamp, nI_1, nI_add, rl_lt0, rl_0le, rl_eq0, rl_eq1, rl_eq2, rl_m1, rl_m8, rl_m100, rl_vb0, rl_vb1, true_implies, forall_const, not_true_eq_false, not_false_eq_true, false_implies, and_true, true_and, implies_true, and_self]
          exact this
        · have hk : rl_kp TB CP KP (p * 100 + i) = KP (p * 100 + i) := by
            unfold rl_kp
            rw [d1, d2, if_neg (fun z => b z.2)]
          rw [ea, ← rl_mix_k hk] at this
          simp (disch := omega) only [wY_judge_101, rl_99g, rl_99l, e, e3, a, b, forall_eq, Nat.le_refl, rl_10, rl_n10, nI_leI, nI_ltI, nI_eq, vp_in_nI, nI_clamp, nI_1, nI_add, rl_lt0, rl_0le, rl_eq0, rl_eq1, rl_eq2, rl_m1, rl_m8, rl_m100, rl_vb0, rl_vb1, true_implies, forall_const, not_true_eq_false, not_false_eq_true, false_implies, and_true, true_and, implies_true, and_self]
          exact this
theorem ry_jF (hQ : rl_Q n m sd rc si ri SD RC SI RI) (hST : ∀ s, ST s = nI (st s)) (h2 : ∀ s, st s ≤ 2) {post : SY → Prop} {JC : Int32 → Int32 → Int32 → Int32 → (Nat → Int32) → (Nat → Int32) → (Nat → Int32) → (Nat → Int32) → (Nat → Int32) → (Nat → Int32) → (Nat → Int32) → (Nat → Int32) → (Nat → Int32) → (Nat → Int32) → (Nat → Int32) → (Nat → Int32) → (Nat → Int32) → (Nat → Int32) → Prop} {x1 x2 : Int32}
    {x : Nat → Nat} (hx : ∀ p, p < n → CP p = nI (x p)) (h100 : ∀ p, p < n → x p ≤ 100)
    (hnext : JC (x2 + 1) (nI n) (nI c) (nI m) vY IV U TB TS ST SD RC PL SI RI CP KP (rl_mix m (rl_sl st rc ri x SL) SL)) :
    ∀ (fu s : Nat), m < fu + s → s ≤ m → wY_judge_161 post JC x1 x2 (nI n) (nI c) (nI m) fu (nI s) vY IV U TB TS ST SD RC PL SI RI CP KP (rl_mix s (rl_sl st rc ri x SL) SL) := by
  obtain ⟨n4, m16, hM1, hSD, hRC, hSI, hRI⟩ := hQ
  intro fu
  induction fu with
  | zero => intro s q1 q2; omega
  | succ fu ih =>
    intro s q1 q2
    by_cases e : m ≤ s
    · have e2 : s = m := by omega
      simp (disch := omega) only [wY_judge_161, e, forall_eq, Nat.le_refl, rl_10, rl_n10, nI_leI, nI_ltI, nI_eq, vp_in_nI, nI_clamp, nI_1, nI_add, rl_lt0, rl_0le, rl_eq0, rl_eq1, rl_eq2, rl_m1, rl_m8, rl_m100, rl_vb0, rl_vb1, true_implies, forall_const, not_true_eq_false, not_false_eq_true, false_implies, and_true, true_and, implies_true, and_self]
      rw [e2]; exact hnext
    · have := ih (s + 1) (by omega) (by omega)
      obtain ⟨t2, t3, t4, t5⟩ := hM1 s
      have x1' := hx _ t3
      have x2' := h100 _ t3
      have h2s := h2 s
      by_cases a : st s = 2
      · by_cases b : ri s < x (rc s)
        · have b2 : ¬ x (rc s) ≤ ri s := by omega
          rw [← rl_mix_k (show rl_sl st rc ri x SL s = SL s from if_neg (fun z => z.2 b))] at this
          simp (disch := omega) only [wY_judge_161, e, hST, hRC, hRI, a, b, b2, x1', forall_eq, Nat.le_refl, rl_10, rl_n10, nI_leI, nI_ltI, nI_eq, vp_in_nI, nI_clamp, nI_1, nI_add, rl_lt0, rl_0le, rl_eq0, rl_eq1, rl_eq2, rl_m1, rl_m8, rl_m100, rl_vb0, rl_vb1, true_implies, forall_const, not_true_eq_false, not_false_eq_true, false_implies, and_true, true_and, implies_true, and_self]
          exact this
        · have b2 : x (rc s) ≤ ri s := by omega
          rw [← rl_mix_s (show (0 : Int32) = rl_sl st rc ri x SL s from (if_pos ⟨a, b⟩).symm)] at this
          simp (disch := omega) only [wY_judge_161, e, hST, hRC, hRI, a, b, b2, x1', forall_eq, Nat.le_refl, rl_10, rl_n10, nI_leI, nI_ltI, nI_eq, vp_in_nI, nI_clamp, nI_1, nI_add, rl_lt0, rl_0le, rl_eq0, rl_eq1, rl_eq2, rl_m1, rl_m8, rl_m100, rl_vb0, rl_vb1, true_implies, forall_const, not_true_eq_false, not_false_eq_true, false_implies, and_true, true_and, implies_true, and_self]
          exact this
      · rw [← rl_mix_k (show rl_sl st rc ri x SL s = SL s from if_neg (fun z => a z.1))] at this
        simp (disch := omega) only [wY_judge_161, e, hST, a, forall_eq, Nat.le_refl, rl_10, rl_n10, nI_leI, nI_ltI, nI_eq, vp_in_nI, nI_clamp, nI_1, nI_add, rl_lt0, rl_0le, rl_eq0, rl_eq1, rl_eq2, rl_m1, rl_m8, rl_m100, rl_vb0, rl_vb1, true_implies, forall_const, not_true_eq_false, not_false_eq_true, false_implies, and_true, true_and, implies_true, and_self]
        exact this
theorem ry_jD (hQ : rl_Q n m sd rc si ri SD RC SI RI) (hST : ∀ s, ST s = nI (st s)) (h2 : ∀ s, st s ≤ 2) {post : SY → Prop} {JC : Int32 → Int32 → Int32 → Int32 → (Nat → Int32) → (Nat → Int32) → (Nat → Int32) → (Nat → Int32) → (Nat → Int32) → (Nat → Int32) → (Nat → Int32) → (Nat → Int32) → (Nat → Int32) → (Nat → Int32) → (Nat → Int32) → (Nat → Int32) → (Nat → Int32) → (Nat → Int32) → Prop} {x1 x2 : Int32}
    {x : Nat → Nat} (hx : ∀ p, p < n → CP p = nI (x p)) (h100 : ∀ p, p < n → x p ≤ 100)
    (hnext : JC (x2 + 1) (nI n) (nI c) (nI m) vY IV U TB TS ST SD RC PL SI RI CP (rl_mix (n * 100) (rl_kp TB CP KP) KP) (rl_mix m (rl_sl st rc ri x SL) SL)) :
    ∀ (fu p : Nat), n < fu + p → p ≤ n → wY_judge_90 post JC x1 x2 (nI n) (nI c) (nI m) fu (nI p) vY IV U TB TS ST SD RC PL SI RI CP (rl_mix (p * 100) (rl_kp TB CP KP) KP) SL := by
  have hQ' := hQ
  obtain ⟨n4, m16, hM1, hSD, hRC, hSI, hRI⟩ := hQ'
  intro fu
  induction fu with
  | zero => intro p q1 q2; omega
  | succ fu ih =>
    intro p q1 q2
    by_cases e : n ≤ p
    · have e2 : p = n := by omega
      simp (disch := omega) only [wY_judge_90, e, forall_eq, Nat.le_refl, rl_10, rl_n10, nI_leI, nI_ltI, nI_eq, vp_in_nI, nI_clamp, nI_1, nI_add, rl_lt0, rl_0le, rl_eq0, rl_eq1, rl_eq2, rl_m1, rl_m8, rl_m100, rl_vb0, rl_vb1, true_implies, forall_const, not_true_eq_false, not_false_eq_true, false_implies, and_true, true_and, implies_true, and_self]
      rw [e2]
      have := ry_jF hQ hST h2 (post := post) (x1 := x1) hx h100 hnext (m + 1) 0 (by omega) (by omega)
      rw [rl_mix_0] at this
      exact ⟨_, this⟩
    · have := ih (p + 1) (by omega) (by omega)
      simp (disch := omega) only [wY_judge_90, e, forall_eq, Nat.le_refl, rl_10, rl_n10, nI_leI, nI_ltI, nI_eq, vp_in_nI, nI_clamp, nI_1, nI_add, rl_lt0, rl_0le, rl_eq0, rl_eq1, rl_eq2, rl_m1, rl_m8, rl_m100, rl_vb0, rl_vb1, true_implies, forall_const, not_true_eq_false, not_false_eq_true, false_implies, and_true, true_and, implies_true, and_self]
      exact ⟨101, ry_jE (by omega) this 101 0 (by omega) (by omega)⟩
theorem ry_jC (hB : rl_AY n c m iv ct g st sd rc si ri IV TB ST SD RC SI RI) {post : SY → Prop} {Ls : Int32 → Nat → Nat} (hL : ∀ T, rl_IsL n (rl_tp ct T) (rl_C m iv ct g st sd rc si ri) (Ls T)) {D : Int32}
    (hpost : ∀ CP' KP' SL', (∀ p, p < n → ∀ k, k < ct p → (¬ KP' (p * 100 + g p k) = 0 ↔ rl_Nd D Ls (2 ^ n) p k)) →
      (∀ s, s < m → (¬ SL' s = 0 ↔ rl_Se D (fun T p => rl_G ct g iv p (Ls T p)) st rc ri (2 ^ n) s)) → post (nI n, nI c, nI m, vY, IV, U, TB, TS, ST, SD, RC, PL, SI, RI, CP', KP', SL')) :
    ∀ (fu J : Nat) (CP KP SL : Nat → Int32), 2 ^ n < fu + J → J ≤ 2 ^ n → (∀ p, p < n → ∀ k, k < ct p → (¬ KP (p * 100 + g p k) = 0 ↔ rl_Nd D Ls J p k)) →
      (∀ s, s < m → (¬ SL s = 0 ↔ rl_Se D (fun T p => rl_G ct g iv p (Ls T p)) st rc ri J s)) → wY_judge_66 post D fu (nI J) (nI n) (nI c) (nI m) vY IV U TB TS ST SD RC PL SI RI CP KP SL := by
  have hB' := hB
  obtain ⟨hW, hIV, hT, hST, hSD, hRC, hSI, hRI⟩ := hB'
  have hW' := hW
  obtain ⟨⟨⟨n2, n4⟩, ⟨c3, c8⟩, ⟨m4, m16⟩⟩, hS, hM, _⟩ := hW'
  have h16 := rl_16 n4
  have h1n := rl_1n n2 n4
  have hQ : rl_Q n m sd rc si ri SD RC SI RI := ⟨n4, m16, fun s => (hM.1 s).2, hSD, hRC, hSI, hRI⟩
  intro fu
  induction fu with
  | zero => intro J CP KP SL q1 q2; omega
  | succ fu ih =>
    intro J CP KP SL q1 q2 q3 q4
    by_cases e : 2 ^ n ≤ J
    · have e2 : J = 2 ^ n := by omega
      simp (disch := omega) only [wY_judge_66, h1n, e, forall_eq, Nat.le_refl, rl_10, rl_n10, nI_leI, nI_ltI, nI_eq, vp_in_nI, nI_clamp, nI_1, nI_add, rl_lt0, rl_0le, rl_eq0, rl_eq1, rl_eq2, rl_m1, rl_m8, rl_m100, rl_vb0, rl_vb1, true_implies, forall_const, not_true_eq_false, not_false_eq_true, false_implies, and_true, true_and, implies_true, and_self]
      rw [e2] at q3 q4
      exact hpost CP KP SL q3 q4
    · by_cases l : (nI J &&& D) = D
      · simp (disch := omega) only [wY_judge_66, h1n, e, l, forall_eq, Nat.le_refl, rl_10, rl_n10, nI_leI, nI_ltI, nI_eq, vp_in_nI, nI_clamp, nI_1, nI_add, rl_lt0, rl_0le, rl_eq0, rl_eq1, rl_eq2, rl_m1, rl_m8, rl_m100, rl_vb0, rl_vb1, true_implies, forall_const, not_true_eq_false, not_false_eq_true, false_implies, and_true, true_and, implies_true, and_self]
        refine ry_line hB (hL (nI J)) (fun CP1 r1 => ?_)
        try dsimp only
        have nxt : wY_judge_66 post D fu (nI (J + 1)) (nI n) (nI c) (nI m) vY IV U TB TS ST SD RC PL SI RI CP1 (rl_mix (n * 100) (rl_kp TB CP1 KP) KP) (rl_mix m (rl_sl st rc ri (fun p => rl_G ct g iv p (Ls (nI J) p)) SL) SL) := by
          refine ih (J + 1) _ _ _ (by omega) (by omega) (fun p hp k hk => ?_) (fun s hs => ?_)
          · obtain ⟨s1, s2, s3, s4, s5⟩ := hS p hp
            have hg := s4 k hk
            have d1 : (p * 100 + g p k) % 100 = g p k := by omega
            have d2 : (p * 100 + g p k) / 100 = p := by omega
            have hle : Ls (nI J) p ≤ ct p := Nat.le_trans ((hL (nI J)).1 p hp) (rl_tp_le ct _ p)
            have hG := rl_G_100 hS (Ls (nI J) p) hp
            have hTB : ¬ TB (p * 100 + g p k) = 0 := (hT p hp _ (by omega)).mpr ⟨k, hk, rfl⟩
            rw [rl_mix_lt (by omega), rl_Nd_t l]
            unfold rl_kp
            rw [d1, d2, r1 p hp]
            by_cases z : Ls (nI J) p = k
            · have : nI (g p k) = nI (rl_G ct g iv p (Ls (nI J) p)) := by rw [z, rl_G_in hk]
              rw [if_pos ⟨hTB, this⟩]
              exact ⟨fun _ => Or.inr z, fun _ => by decide⟩
            · have : ¬ (¬ TB (p * 100 + g p k) = 0 ∧ nI (g p k) = nI (rl_G ct g iv p (Ls (nI J) p))) := by
                intro w
                have w2 : g p k = rl_G ct g iv p (Ls (nI J) p) := (nI_eq (by omega) (by omega)).mp w.2
                rw [← rl_G_in (ct := ct) (g := g) (iv := iv) hk] at w2
                exact z (rl_G_inj hS hp (by omega) hle w2).symm
              rw [if_neg this, q3 p hp k hk]
              exact ⟨fun h => Or.inl h, fun h => h.resolve_right z⟩
          · rw [rl_mix_lt hs, rl_Se_t l, ← q4 s hs]
            unfold rl_sl
            by_cases a : st s = 2
            · by_cases b : ri s < rl_G ct g iv (rc s) (Ls (nI J) (rc s))
              · rw [if_neg (fun z => z.2 b)]
                exact ⟨fun h => ⟨h, b⟩, fun h => h.1⟩
              · rw [if_pos ⟨a, b⟩]
                exact ⟨fun h => absurd rfl h, fun h => absurd h.2 b⟩
            · rw [if_neg (fun z => a z.1)]
              exact ⟨fun h => absurd ((q4 s hs).mp h).1 a, fun h => h.1⟩
        have := ry_jD hQ hST (fun s => (hM.1 s).1) (post := post) (x1 := D) (x2 := nI J) (CP := CP1) (KP := KP) (SL := SL) (JC := wY_judge_66 post D fu) r1 (fun p hp => rl_G_100 hS _ hp)
          (by rw [nI_1]; exact nxt) (n + 1) 0 (by omega) (by omega)
        rw [Nat.zero_mul, rl_mix_0] at this
        exact ⟨_, this⟩
      · simp (disch := omega) only [wY_judge_66, h1n, e, l, forall_eq, Nat.le_refl, rl_10, rl_n10, nI_leI, nI_ltI, nI_eq, vp_in_nI, nI_clamp, nI_1, nI_add, rl_lt0, rl_0le, rl_eq0, rl_eq1, rl_eq2, rl_m1, rl_m8, rl_m100, rl_vb0, rl_vb1, true_implies, forall_const, not_true_eq_false, not_false_eq_true, false_implies, and_true, true_and, implies_true, and_self]
        refine ih (J + 1) _ _ _ (by omega) (by omega) (fun p hp k hk => ?_) (fun s hs => ?_)
        · rw [rl_Nd_f l, q3 p hp k hk]
        · rw [rl_Se_f l, q4 s hs]
theorem ry_jB (hB : rl_AY n c m iv ct g st sd rc si ri IV TB ST SD RC SI RI) {post : SY → Prop} {x1 : Int32} (hnext : ∃ f, wY_judge_66 post x1 f 0 (nI n) (nI c) (nI m) vY IV U TB TS ST SD RC PL SI RI CP KP (rl_mix m (rl_r2 st) SL)) :
    ∀ (fu s : Nat), m < fu + s → s ≤ m → wY_judge_29 post x1 (nI n) (nI c) (nI m) fu (nI s) vY IV U TB TS ST SD RC PL SI RI CP KP (rl_mix s (rl_r2 st) SL) := by
  have hB' := hB
  obtain ⟨hW, hIV, hT, hST, hSD, hRC, hSI, hRI⟩ := hB'
  have hW' := hW
  obtain ⟨⟨⟨n2, n4⟩, ⟨c3, c8⟩, ⟨m4, m16⟩⟩, hS, hM, _⟩ := hW'
  intro fu
  induction fu with
  | zero => intro s q1 q2; omega
  | succ fu ih =>
    intro s q1 q2
    obtain ⟨t1, t2, t3, t4, t5⟩ := hM.1 s
    by_cases e : m ≤ s
    · have e2 : s = m := by omega
      simp (disch := omega) only [wY_judge_29, e, forall_eq, Nat.le_refl, rl_10, rl_n10, nI_leI, nI_ltI, nI_eq, vp_in_nI, nI_clamp, nI_1, nI_add, rl_lt0, rl_0le, rl_eq0, rl_eq1, rl_eq2, rl_m1, rl_m8, rl_m100, rl_vb0, rl_vb1, true_implies, forall_const, not_true_eq_false, not_false_eq_true, false_implies, and_true, true_and, implies_true, and_self]
      rw [e2]; exact hnext
    · have := ih (s + 1) (by omega) (by omega)
      by_cases l : st s = 2
      · rw [← rl_mix_s (show (1 : Int32) = rl_r2 st s from (if_pos l).symm)] at this
        simp (disch := omega) only [wY_judge_29, e, hST, l, forall_eq, Nat.le_refl, rl_10, rl_n10, nI_leI, nI_ltI, nI_eq, vp_in_nI, nI_clamp, nI_1, nI_add, rl_lt0, rl_0le, rl_eq0, rl_eq1, rl_eq2, rl_m1, rl_m8, rl_m100, rl_vb0, rl_vb1, true_implies, forall_const, not_true_eq_false, not_false_eq_true, false_implies, and_true, true_and, implies_true, and_self]
        exact this
      · rw [← rl_mix_s (show (0 : Int32) = rl_r2 st s from (if_neg l).symm)] at this
        simp (disch := omega) only [wY_judge_29, e, hST, l, forall_eq, Nat.le_refl, rl_10, rl_n10, nI_leI, nI_ltI, nI_eq, vp_in_nI, nI_clamp, nI_1, nI_add, rl_lt0, rl_0le, rl_eq0, rl_eq1, rl_eq2, rl_m1, rl_m8, rl_m100, rl_vb0, rl_vb1, true_implies, forall_const, not_true_eq_false, not_false_eq_true, false_implies, and_true, true_and, implies_true, and_self]
        exact this
theorem ry_jA (hB : rl_AY n c m iv ct g st sd rc si ri IV TB ST SD RC SI RI) {post : SY → Prop} {x1 : Int32} (hnext : ∃ f, wY_judge_66 post x1 f 0 (nI n) (nI c) (nI m) vY IV U TB TS ST SD RC PL SI RI CP (rl_mix 400 (fun _ => 0) KP) (rl_mix m (rl_r2 st) SL)) :
    ∀ (fu i : Nat), 400 < fu + i → i ≤ 400 → wY_judge_7 post x1 (nI n) (nI c) (nI m) fu (nI i) vY IV U TB TS ST SD RC PL SI RI CP (rl_mix i (fun _ => 0) KP) SL := by
  intro fu
  induction fu with
  | zero => intro i q1 q2; omega
  | succ fu ih =>
    intro i q1 q2
    by_cases e : 400 ≤ i
    · have e2 : i = 400 := by omega
      subst e2
      simp (disch := omega) only [wY_judge_7, e, rl_400, forall_eq, Nat.le_refl, rl_10, rl_n10, nI_leI, nI_ltI, nI_eq, vp_in_nI, nI_clamp, nI_1, nI_add, rl_lt0, rl_0le, rl_eq0, rl_eq1, rl_eq2, rl_m1, rl_m8, rl_m100, rl_vb0, rl_vb1, true_implies, forall_const, not_true_eq_false, not_false_eq_true, false_implies, and_true, true_and, implies_true, and_self]
      have := ry_jB hB hnext (m + 1) 0 (by omega) (by omega)
      rw [rl_mix_0] at this
      exact ⟨_, this⟩
    · have := ih (i + 1) (by omega) (by omega)
      rw [← rl_mix_s (x := 0) rfl] at this
      simp (disch := omega) only [wY_judge_7, e, rl_400, forall_eq, Nat.le_refl, rl_10, rl_n10, nI_leI, nI_ltI, nI_eq, vp_in_nI, nI_clamp, nI_1, nI_add, rl_lt0, rl_0le, rl_eq0, rl_eq1, rl_eq2, rl_m1, rl_m8, rl_m100, rl_vb0, rl_vb1, true_implies, forall_const, not_true_eq_false, not_false_eq_true, false_implies, and_true, true_and, implies_true, and_self]
      exact this
theorem ry_judge (hB : rl_AY n c m iv ct g st sd rc si ri IV TB ST SD RC SI RI) {post : SY → Prop} {Ls : Int32 → Nat → Nat} (hL : ∀ T, rl_IsL n (rl_tp ct T) (rl_C m iv ct g st sd rc si ri) (Ls T))
    (hpost : ∀ CP' KP' SL', (∀ p, p < n → ∀ k, k < ct p → (¬ KP' (p * 100 + g p k) = 0 ↔ rl_Nd (rl_or (rl_dn U) n) Ls (2 ^ n) p k)) →
      (∀ s, s < m → (¬ SL' s = 0 ↔ rl_Se (rl_or (rl_dn U) n) (fun T p => rl_G ct g iv p (Ls T p)) st rc ri (2 ^ n) s)) → post (nI n, nI c, nI m, vY, IV, U, TB, TS, ST, SD, RC, PL, SI, RI, CP', KP', SL')) :
    wpY_judge post (nI n, nI c, nI m, vY, IV, U, TB, TS, ST, SD, RC, PL, SI, RI, CP, KP, SL) := by
  have hB' := hB
  obtain ⟨hW, hIV, hT, hST, hSD, hRC, hSI, hRI⟩ := hB'
  have hW' := hW
  obtain ⟨⟨⟨n2, n4⟩, ⟨c3, c8⟩, ⟨m4, m16⟩⟩, hS, hM, _⟩ := hW'
  simp only [wpY_judge]
  refine ry_down n2 n4 ?_
  try dsimp only
  have := ry_jA hB (KP := KP) (SL := SL) (post := post) (x1 := rl_or (rl_dn U) n) ⟨2 ^ n + 1, ry_jC hB hL hpost (2 ^ n + 1) 0 CP _ _ (Nat.lt_succ_self _) (Nat.zero_le _) (fun p hp k hk => ?_) (fun s hs => ?_)⟩ 401 0 (by omega) (by omega)
  · rw [rl_mix_0] at this
    exact ⟨_, this⟩
  · obtain ⟨s1, s2, s3, s4, s5⟩ := hS p hp
    have := s4 k hk
    rw [rl_mix_lt (by omega)]
    exact ⟨fun z => absurd rfl z, fun z => absurd z rl_Nd_0⟩
  · rw [rl_mix_lt hs, rl_Se_0]
    unfold rl_r2
    by_cases l : st s = 2
    · rw [if_pos l]; exact ⟨fun _ => l, fun _ => by decide⟩
    · rw [if_neg l]; exact ⟨fun z => absurd rfl z, fun z => absurd z l⟩
end
end
section
/-- what the reference keeps of its table -/
def rl_tb (KP TB : Nat → Int32) : Nat → Int32 := fun j => if KP j = 0 then 0 else TB j
def rl_dr (KP TB : Nat → Int32) : Nat → Bool := fun j => decide (¬ TB j = 0) && decide (KP j = 0)
/-- its table behind a recovery: x the numbers of the line, f the processes that roll back -/
def rl_tr (f : Nat → Bool) (x : Nat → Nat) (TB : Nat → Int32) : Nat → Int32 := fun j => if f (j / 100) = true ∧ x (j / 100) < j % 100 then 0 else TB j
def rl_vi (y i : Nat) (a b : Nat → Int32) : Nat → Int32 := if y < i then a else b
theorem rl_vi_t {y i : Nat} {a b : Nat → Int32} (h : y < i) : rl_vi y i a b = a := if_pos h
theorem rl_vi_f {y i : Nat} {a b : Nat → Int32} (h : ¬ y < i) : rl_vi y i a b = b := if_neg h
theorem rl_p100 (a : Nat) : nI a + 100 = nI (a + 100) := nI_add a 100
section
variable {n c m : Nat} {iv ct st sd rc si ri : Nat → Nat} {g : Nat → Nat → Nat}
variable {vY IV U TB TS ST SD RC PL SI RI CP KP SL : Nat → Int32}
theorem ry_recl2_l {post : Int32 → SY → Prop} {R : Nat} (m16 : m ≤ 16) (hpost : post (nI (R + rl_cn (rl_nz SL) m)) (nI n, nI c, nI m, vY, IV, U, TB, TS, rl_mix m (rl_cl SL ST) ST, SD, RC, PL, SI, RI, CP, KP, SL)) :
    ∀ (fu s : Nat), m < fu + s → s ≤ m → wY_reclaim_51 post (nI n) (nI c) (nI m) fu (nI (R + rl_cn (rl_nz SL) s)) (nI s) vY IV U TB TS (rl_mix s (rl_cl SL ST) ST) SD RC PL SI RI CP KP SL := by
  intro fu
  induction fu with
  | zero => intro s q1 q2; omega
  | succ fu ih =>
    intro s q1 q2
    by_cases e : m ≤ s
    · have e2 : s = m := by omega
      simp (disch := omega) only [wY_reclaim_51, e, forall_eq, Nat.le_refl, rl_10, rl_n10, nI_leI, nI_ltI, nI_eq, vp_in_nI, nI_clamp, nI_1, nI_add, rl_lt0, rl_0le, rl_eq0, rl_eq1, rl_eq2, rl_m1, rl_m8, rl_m100, rl_vb0, rl_vb1, true_implies, forall_const, not_true_eq_false, not_false_eq_true, false_implies, and_true, true_and, implies_true, and_self]
      rw [e2]; exact hpost
    · have := ih (s + 1) (by omega) (by omega)
      by_cases l : SL s = 0
      · have hn : ¬ rl_nz SL s = true := fun z => (of_decide_eq_true z) l
        rw [rl_cn_f hn, ← rl_mix_k (show rl_cl SL ST s = ST s from if_pos l)] at this
        simp (disch := omega) only [wY_reclaim_51, e, l, forall_eq, Nat.le_refl, rl_10, rl_n10, nI_leI, nI_ltI, nI_eq, vp_in_nI, nI_clamp, nI_1, nI_add, rl_lt0, rl_0le, rl_eq0, rl_eq1, rl_eq2, rl_m1, rl_m8, rl_m100, rl_vb0, rl_vb1, true_implies, forall_const, not_true_eq_false, not_false_eq_true, false_implies, and_true, true_and, implies_true, and_self]
        exact this
      · have hn : rl_nz SL s = true := decide_eq_true l
        rw [rl_cn_t hn, ← Nat.add_assoc, ← rl_mix_s (show (0 : Int32) = rl_cl SL ST s from (if_neg l).symm)] at this
        simp (disch := omega) only [wY_reclaim_51, e, l, forall_eq, Nat.le_refl, rl_10, rl_n10, nI_leI, nI_ltI, nI_eq, vp_in_nI, nI_clamp, nI_1, nI_add, rl_lt0, rl_0le, rl_eq0, rl_eq1, rl_eq2, rl_m1, rl_m8, rl_m100, rl_vb0, rl_vb1, true_implies, forall_const, not_true_eq_false, not_false_eq_true, false_implies, and_true, true_and, implies_true, and_self]
        exact this
theorem ry_recl1_l {post : Int32 → SY → Prop} (m16 : m ≤ 16) (hpost : post (nI (100 * rl_cn (rl_dr KP TB) 400 + rl_cn (rl_nz SL) m)) (nI n, nI c, nI m, vY, IV, U, rl_mix 400 (rl_tb KP TB) TB, TS, rl_mix m (rl_cl SL ST) ST, SD, RC, PL, SI, RI, CP, KP, SL)) :
    ∀ (fu i : Nat), 400 < fu + i → i ≤ 400 → wY_reclaim_8 post (nI n) (nI c) (nI m) fu (nI (100 * rl_cn (rl_dr KP TB) i)) (nI i) vY IV U (rl_mix i (rl_tb KP TB) TB) TS ST SD RC PL SI RI CP KP SL := by
  intro fu
  induction fu with
  | zero => intro i q1 q2; omega
  | succ fu ih =>
    intro i q1 q2
    by_cases e : 400 ≤ i
    · have e2 : i = 400 := by omega
      subst e2
      simp (disch := omega) only [wY_reclaim_8, rl_400, e, forall_eq, Nat.le_refl, rl_10, rl_n10, nI_leI, nI_ltI, nI_eq, vp_in_nI, nI_clamp, nI_1, nI_add, rl_lt0, rl_0le, rl_eq0, rl_eq1, rl_eq2, rl_m1, rl_m8, rl_m100, rl_vb0, rl_vb1, true_implies, forall_const, not_true_eq_false, not_false_eq_true, false_implies, and_true, true_and, implies_true, and_self]
      have := ry_recl2_l (TB := rl_mix 400 (rl_tb KP TB) TB) (R := 100 * rl_cn (rl_dr KP TB) 400) m16 hpost (m + 1) 0 (by omega) (by omega)
      rw [rl_mix_0] at this
      exact ⟨_, this⟩
    · have := ih (i + 1) (by omega) (by omega)
      have hTB : rl_mix i (rl_tb KP TB) TB i = TB i := rl_mix_ge (Nat.le_refl _)
      by_cases a : TB i = 0
      · have hn : ¬ rl_dr KP TB i = true := by unfold rl_dr; simp [a]
        have hk : rl_tb KP TB i = TB i := by unfold rl_tb; rw [a]; split <;> rfl
        rw [rl_cn_f hn, ← rl_mix_k hk] at this
        simp (disch := omega) only [wY_reclaim_8, rl_400, e, hTB, a, forall_eq, Nat.le_refl, rl_10, rl_n10, nI_leI, nI_ltI, nI_eq, vp_in_nI, nI_clamp, nI_1, nI_add, rl_lt0, rl_0le, rl_eq0, rl_eq1, rl_eq2, rl_m1, rl_m8, rl_m100, rl_vb0, rl_vb1, true_implies, forall_const, not_true_eq_false, not_false_eq_true, false_implies, and_true, true_and, implies_true, and_self]
        exact this
      · by_cases b : KP i = 0
        · have hn : rl_dr KP TB i = true := by unfold rl_dr; simp [a, b]
          have hk : (0 : Int32) = rl_tb KP TB i := (if_pos b).symm
          rw [rl_cn_t hn, Nat.mul_add, Nat.mul_one, ← rl_mix_s hk] at this
          simp (disch := omega) only [wY_reclaim_8, rl_400, rl_p100, e, hTB, a, b, forall_eq, Nat.le_refl, rl_10, rl_n10, nI_leI, nI_ltI, nI_eq, vp_in_nI, nI_clamp, nI_1, nI_add, rl_lt0, rl_0le, rl_eq0, rl_eq1, rl_eq2, rl_m1, rl_m8, rl_m100, rl_vb0, rl_vb1, true_implies, forall_const, not_true_eq_false, not_false_eq_true, false_implies, and_true, true_and, implies_true, and_self]
          exact this
        · have hn : ¬ rl_dr KP TB i = true := by unfold rl_dr; simp [b]
          have hk : rl_tb KP TB i = TB i := if_neg b
          rw [rl_cn_f hn, ← rl_mix_k hk] at this
          simp (disch := omega) only [wY_reclaim_8, rl_400, e, hTB, a, b, forall_eq, Nat.le_refl, rl_10, rl_n10, nI_leI, nI_ltI, nI_eq, vp_in_nI, nI_clamp, nI_1, nI_add, rl_lt0, rl_0le, rl_eq0, rl_eq1, rl_eq2, rl_m1, rl_m8, rl_m100, rl_vb0, rl_vb1, true_implies, forall_const, not_true_eq_false, not_false_eq_true, false_implies, and_true, true_and, implies_true, and_self]
          exact this
theorem ry_reclaim (hB : rl_AY n c m iv ct g st sd rc si ri IV TB ST SD RC SI RI) {post : Int32 → SY → Prop} {Ls : Int32 → Nat → Nat} (hL : ∀ T, rl_IsL n (rl_tp ct T) (rl_C m iv ct g st sd rc si ri) (Ls T))
    (hpost : ∀ CP' KP' SL', (∀ p, p < n → ∀ k, k < ct p → (¬ KP' (p * 100 + g p k) = 0 ↔ rl_Nd (rl_or (rl_dn U) n) Ls (2 ^ n) p k)) →
      (∀ s, s < m → (¬ SL' s = 0 ↔ rl_Se (rl_or (rl_dn U) n) (fun T p => rl_G ct g iv p (Ls T p)) st rc ri (2 ^ n) s)) →
      post (nI (100 * rl_cn (rl_dr KP' TB) 400 + rl_cn (rl_nz SL') m)) (nI n, nI c, nI m, vY, IV, U, rl_mix 400 (rl_tb KP' TB) TB, TS, rl_mix m (rl_cl SL' ST) ST, SD, RC, PL, SI, RI, CP', KP', SL')) :
    wpY_reclaim post (nI n, nI c, nI m, vY, IV, U, TB, TS, ST, SD, RC, PL, SI, RI, CP, KP, SL) := by
  have hB' := hB
  obtain ⟨hW, hIV, hT, hST, hSD, hRC, hSI, hRI⟩ := hB'
  have hW' := hW
  obtain ⟨⟨⟨n2, n4⟩, ⟨c3, c8⟩, ⟨m4, m16⟩⟩, hS, hM, _⟩ := hW'
  simp only [wpY_reclaim]
  refine ry_judge hB hL (fun CP1 KP1 SL1 r1 r2 => ?_)
  try dsimp only
  have := ry_recl1_l (KP := KP1) (SL := SL1) (CP := CP1) (TB := TB) (ST := ST) m16 (hpost CP1 KP1 SL1 r1 r2) 401 0 (by omega) (by omega)
  rw [rl_mix_0] at this
  exact ⟨_, this⟩
theorem ry_rA (hB : rl_AY n c m iv ct g st sd rc si ri IV TB ST SD RC SI RI) {post : Int32 → SY → Prop} {x : Nat → Nat} (hx : ∀ p, p < n → CP p = nI (x p)) (h100 : ∀ p, p < n → x p ≤ 100)
    (hnext : ∃ f, wY_recover_112 post (nI n) (nI c) (nI m) f 0 0 vY IV U TB TS (rl_mix m (fun s => nI (rl_rb st sd rc si ri x s)) ST) SD RC PL SI RI CP KP SL) :
    ∀ (fu s : Nat), m < fu + s → s ≤ m → wY_recover_18 post (nI n) (nI c) (nI m) fu (nI s) vY IV U TB TS (rl_mix s (fun s => nI (rl_rb st sd rc si ri x s)) ST) SD RC PL SI RI CP KP SL := by
  have hB' := hB
  obtain ⟨hW, hIV, hT, hST, hSD, hRC, hSI, hRI⟩ := hB'
  have hW' := hW
  obtain ⟨⟨⟨n2, n4⟩, ⟨c3, c8⟩, ⟨m4, m16⟩⟩, hS, hM, _⟩ := hW'
  intro fu
  induction fu with
  | zero => intro s q1 q2; omega
  | succ fu ih =>
    intro s q1 q2
    by_cases e : m ≤ s
    · have e2 : s = m := by omega
      simp (disch := omega) only [wY_recover_18, e, forall_eq, Nat.le_refl, rl_10, rl_n10, nI_leI, nI_ltI, nI_eq, vp_in_nI, nI_clamp, nI_1, nI_add, rl_lt0, rl_0le, rl_eq0, rl_eq1, rl_eq2, rl_m1, rl_m8, rl_m100, rl_vb0, rl_vb1, true_implies, forall_const, not_true_eq_false, not_false_eq_true, false_implies, and_true, true_and, implies_true, and_self]
      rw [e2]; exact hnext
    · have := ih (s + 1) (by omega) (by omega)
      obtain ⟨t1, t2, t3, t4, t5⟩ := hM.1 s
      have x1' := hx _ t2
      have x2' := hx _ t3
      have x3' := h100 _ t2
      have x4' := h100 _ t3
      have hst : rl_mix s (fun s => nI (rl_rb st sd rc si ri x s)) ST s = nI (st s) := by rw [rl_mix_ge (Nat.le_refl _)]; exact hST s
      have kp : rl_rb st sd rc si ri x s = st s → rl_mix s (fun s => nI (rl_rb st sd rc si ri x s)) ST = rl_mix (s + 1) (fun s => nI (rl_rb st sd rc si ri x s)) ST :=
        fun z => rl_mix_k (show nI (rl_rb st sd rc si ri x s) = ST s by rw [z, hST])
      by_cases z : st s = 0
      · rw [← kp (by unfold rl_rb; rw [if_pos z, z])] at this
        simp (disch := omega) only [wY_recover_18, e, hst, z, forall_eq, Nat.le_refl, rl_10, rl_n10, nI_leI, nI_ltI, nI_eq, vp_in_nI, nI_clamp, nI_1, nI_add, rl_lt0, rl_0le, rl_eq0, rl_eq1, rl_eq2, rl_m1, rl_m8, rl_m100, rl_vb0, rl_vb1, true_implies, forall_const, not_true_eq_false, not_false_eq_true, false_implies, and_true, true_and, implies_true, and_self]
        exact this
      · by_cases a : si s < x (sd s)
        · have a2 : ¬ x (sd s) ≤ si s := by omega
          by_cases l : st s = 2
          · by_cases b : ri s < x (rc s)
            · have b2 : ¬ x (rc s) ≤ ri s := by omega
              rw [← kp (by unfold rl_rb; rw [if_neg z, if_pos a, if_neg (fun w => w.2 b)])] at this
              simp (disch := omega) only [wY_recover_18, e, hst, z, hSD, hSI, hRC, hRI, x1', x2', a, a2, l, b, b2, show ¬ (2 : Nat) = 0 by decide, forall_eq, Nat.le_refl, rl_10, rl_n10, nI_leI, nI_ltI, nI_eq, vp_in_nI, nI_clamp, nI_1, nI_add, rl_lt0, rl_0le, rl_eq0, rl_eq1, rl_eq2, rl_m1, rl_m8, rl_m100, rl_vb0, rl_vb1, true_implies, forall_const, not_true_eq_false, not_false_eq_true, false_implies, and_true, true_and, implies_true, and_self]
              exact this
            · have b2 : x (rc s) ≤ ri s := by omega
              have e1 : (1 : Int32) = nI (rl_rb st sd rc si ri x s) := by
                unfold rl_rb
                rw [if_neg z, if_pos a, if_pos ⟨l, b⟩]
                rfl
              rw [← rl_mix_s (i := s) (a := fun s => nI (rl_rb st sd rc si ri x s)) e1] at this
              simp (disch := omega) only [wY_recover_18, e, hst, z, hSD, hSI, hRC, hRI, x1', x2', a, a2, l, b, b2, show ¬ (2 : Nat) = 0 by decide, forall_eq, Nat.le_refl, rl_10, rl_n10, nI_leI, nI_ltI, nI_eq, vp_in_nI, nI_clamp, nI_1, nI_add, rl_lt0, rl_0le, rl_eq0, rl_eq1, rl_eq2, rl_m1, rl_m8, rl_m100, rl_vb0, rl_vb1, true_implies, forall_const, not_true_eq_false, not_false_eq_true, false_implies, and_true, true_and, implies_true, and_self]
              exact this
          · rw [← kp (by unfold rl_rb; rw [if_neg z, if_pos a, if_neg (fun w => l w.1)])] at this
            simp (disch := omega) only [wY_recover_18, e, hst, z, hSD, hSI, x1', a, a2, l, forall_eq, Nat.le_refl, rl_10, rl_n10, nI_leI, nI_ltI, nI_eq, vp_in_nI, nI_clamp, nI_1, nI_add, rl_lt0, rl_0le, rl_eq0, rl_eq1, rl_eq2, rl_m1, rl_m8, rl_m100, rl_vb0, rl_vb1, true_implies, forall_const, not_true_eq_false, not_false_eq_true, false_implies, and_true, true_and, implies_true, and_self]
            exact this
        · have a2 : x (sd s) ≤ si s := by omega
          have e1 : (0 : Int32) = nI (rl_rb st sd rc si ri x s) := by
            unfold rl_rb
            rw [if_neg z, if_neg a]
            rfl
          rw [← rl_mix_s (i := s) (a := fun s => nI (rl_rb st sd rc si ri x s)) e1] at this
          simp (disch := omega) only [wY_recover_18, e, hst, z, hSD, hSI, x1', a, a2, forall_eq, Nat.le_refl, rl_10, rl_n10, nI_leI, nI_ltI, nI_eq, vp_in_nI, nI_clamp, nI_1, nI_add, rl_lt0, rl_0le, rl_eq0, rl_eq1, rl_eq2, rl_m1, rl_m8, rl_m100, rl_vb0, rl_vb1, true_implies, forall_const, not_true_eq_false, not_false_eq_true, false_implies, and_true, true_and, implies_true, and_self]
          exact this
end
theorem rl_mix_kk {a d : Nat} {A B : Nat → Int32} (h : ∀ q, a ≤ q → q < a + d → A q = B q) : rl_mix a A B = rl_mix (a + d) A B := by
  funext q
  by_cases l : q < a
  · rw [rl_mix_lt l, rl_mix_lt (by omega)]
  · by_cases k : q < a + d
    · rw [rl_mix_ge (by omega), rl_mix_lt k, h q (by omega) k]
    · rw [rl_mix_ge (by omega), rl_mix_ge (by omega)]
section
variable {n c m : Nat} {iv ct st sd rc si ri : Nat → Nat} {g : Nat → Nat → Nat}
variable {vY IV U TB TS ST SD RC PL SI RI CP KP SL : Nat → Int32}
theorem ry_rC {post : Int32 → SY → Prop} {J : Int32 → Int32 → (Nat → Int32) → (Nat → Int32) → (Nat → Int32) → (Nat → Int32) → (Nat → Int32) → (Nat → Int32) → (Nat → Int32) → (Nat → Int32) → (Nat → Int32) → (Nat → Int32) → (Nat → Int32) → (Nat → Int32) → (Nat → Int32) → (Nat → Int32) → Prop} {x2 : Int32} {p y : Nat} {f : Nat → Bool} {x : Nat → Nat} (hp : p < 4) (hy : y ≤ 99) (hcp : CP p = nI y) (hf : f p = true) (hxp : x p = y)
    (hnext : J (x2 + ((1 : Int32) <<< (nI p &&& 31))) (nI (p + 1)) (upd vY p (TS (p * 100 + y))) (upd IV p (nI y)) (upd U p 1) (rl_mix ((p + 1) * 100) (rl_tr f x TB) TB) TS ST SD RC PL SI RI CP KP SL) :
    ∀ (fu i : Nat), 100 < fu + i → i ≤ 100 → wY_recover_138 post J x2 (nI p) (nI n) (nI c) (nI m) fu (nI i) (rl_vi y i (upd vY p (TS (p * 100 + y))) vY) IV U (rl_mix (p * 100 + i) (rl_tr f x TB) TB) TS ST SD RC PL SI RI CP KP SL := by
  intro fu
  induction fu with
  | zero => intro i q1 q2; omega
  | succ fu ih =>
    intro i q1 q2
    by_cases e : 99 < i
    · have e2 : p * 100 + i = (p + 1) * 100 := by omega
      rw [rl_vi_t (by omega), e2]
      simp (disch := omega) only [wY_recover_138, rl_99g, e, hcp, forall_eq, Nat.le_refl, rl_10, rl_n10, nI_leI, nI_ltI, nI_eq, vp_in_nI, nI_clamp, nI_1, nI_add, rl_lt0, rl_0le, rl_eq0, rl_eq1, rl_eq2, rl_m1, rl_m8, rl_m100, rl_vb0, rl_vb1, true_implies, forall_const, not_true_eq_false, not_false_eq_true, false_implies, and_true, true_and, implies_true, and_self]
      exact hnext
    · have := ih (i + 1) (by omega) (by omega)
      have d1 : (p * 100 + i) % 100 = i := by omega
      have d2 : (p * 100 + i) / 100 = p := by omega
      have ea : p * 100 + (i + 1) = (p * 100 + i) + 1 := by omega
      rw [ea] at this
      rcases Nat.lt_trichotomy i y with l | l | l
      · have hk : rl_tr f x TB (p * 100 + i) = TB (p * 100 + i) := by
          unfold rl_tr
          rw [d1, d2, hxp, if_neg (fun z => by omega)]
        have l2 : ¬ i = y := by omega
        have l3 : i ≤ y := by omega
        rw [← rl_mix_k hk, rl_vi_f (by omega)] at this
        rw [rl_vi_f (by omega)]
        simp (disch := omega) only [wY_recover_138, wY_recover_174, rl_99g, e, hcp, l2, l3, forall_eq, Nat.le_refl, rl_10, rl_n10, nI_leI, nI_ltI, nI_eq, vp_in_nI, nI_clamp, nI_1, nI_add, rl_lt0, rl_0le, rl_eq0, rl_eq1, rl_eq2, rl_m1, rl_m8, rl_m100, rl_vb0, rl_vb1, true_implies, forall_const, not_true_eq_false, not_false_eq_true, false_implies, and_true, true_and, implies_true, and_self]
        exact this
      · have hk : rl_tr f x TB (p * 100 + i) = TB (p * 100 + i) := by
          unfold rl_tr
          rw [d1, d2, hxp, if_neg (fun z => by omega)]
        have l3 : i ≤ y := by omega
        rw [← rl_mix_k hk, rl_vi_t (by omega)] at this
        rw [rl_vi_f (by omega)]
        rw [← l] at this hcp
        simp (disch := omega) only [wY_recover_138, wY_recover_174, rl_99g, e, hcp, Nat.le_refl, forall_eq, Nat.le_refl, rl_10, rl_n10, nI_leI, nI_ltI, nI_eq, vp_in_nI, nI_clamp, nI_1, nI_add, rl_lt0, rl_0le, rl_eq0, rl_eq1, rl_eq2, rl_m1, rl_m8, rl_m100, rl_vb0, rl_vb1, true_implies, forall_const, not_true_eq_false, not_false_eq_true, false_implies, and_true, true_and, implies_true, and_self]
        exact this
      · have hk : (0 : Int32) = rl_tr f x TB (p * 100 + i) := by
          unfold rl_tr
          rw [d1, d2, hxp, if_pos ⟨hf, l⟩]
        have l2 : ¬ i = y := by omega
        have l3 : ¬ i ≤ y := by omega
        rw [← rl_mix_s hk, rl_vi_t (by omega)] at this
        rw [rl_vi_t l]
        simp (disch := omega) only [wY_recover_138, wY_recover_174, rl_99g, e, hcp, l2, l3, forall_eq, Nat.le_refl, rl_10, rl_n10, nI_leI, nI_ltI, nI_eq, vp_in_nI, nI_clamp, nI_1, nI_add, rl_lt0, rl_0le, rl_eq0, rl_eq1, rl_eq2, rl_m1, rl_m8, rl_m100, rl_vb0, rl_vb1, true_implies, forall_const, not_true_eq_false, not_false_eq_true, false_implies, and_true, true_and, implies_true, and_self]
        exact this
theorem ry_rB (hB : rl_AY n c m iv ct g st sd rc si ri IV TB ST SD RC SI RI) {post : Int32 → SY → Prop} {L : Nat → Nat} (hx : ∀ p, p < n → CP p = nI (rl_G ct g iv p (L p))) (hle : rl_le n L ct) {ST1 : Nat → Int32}
    (hpost : post (rl_ad (rl_rl ct L) n) (nI n, nI c, nI m, rl_mix n (rl_nf (rl_rl ct L) (fun p => TS (p * 100 + g p (L p))) vY) vY, rl_mix n (rl_nf (rl_rl ct L) (fun p => nI (g p (L p))) IV) IV, rl_mix n (fun _ => 1) U, rl_mix (n * 100) (rl_tr (rl_rl ct L) (fun p => rl_G ct g iv p (L p)) TB) TB, TS, ST1, SD, RC, PL, SI, RI, CP, KP, SL)) :
    ∀ (fu i : Nat), n < fu + i → i ≤ n → wY_recover_112 post (nI n) (nI c) (nI m) fu (rl_ad (rl_rl ct L) i) (nI i)
      (rl_mix i (rl_nf (rl_rl ct L) (fun p => TS (p * 100 + g p (L p))) vY) vY) (rl_mix i (rl_nf (rl_rl ct L) (fun p => nI (g p (L p))) IV) IV) (rl_mix i (fun _ => 1) U) (rl_mix (i * 100) (rl_tr (rl_rl ct L) (fun p => rl_G ct g iv p (L p)) TB) TB) TS ST1 SD RC PL SI RI CP KP SL := by
  have hB' := hB
  obtain ⟨hW, hIV, hT, hST, hSD, hRC, hSI, hRI⟩ := hB'
  have hW' := hW
  obtain ⟨⟨⟨n2, n4⟩, ⟨c3, c8⟩, ⟨m4, m16⟩⟩, hS, hM, _⟩ := hW'
  intro fu
  induction fu with
  | zero => intro i q1 q2; omega
  | succ fu ih =>
    intro i q1 q2
    by_cases e : n ≤ i
    · have e2 : i = n := by omega
      simp (disch := omega) only [wY_recover_112, e, forall_eq, Nat.le_refl, rl_10, rl_n10, nI_leI, nI_ltI, nI_eq, vp_in_nI, nI_clamp, nI_1, nI_add, rl_lt0, rl_0le, rl_eq0, rl_eq1, rl_eq2, rl_m1, rl_m8, rl_m100, rl_vb0, rl_vb1, true_implies, forall_const, not_true_eq_false, not_false_eq_true, false_implies, and_true, true_and, implies_true, and_self]
      rw [e2]; exact hpost
    · have hi : i < n := by omega
      obtain ⟨s1, s2, s3, s4, s5⟩ := hS i hi
      have hG := rl_G_100 hS (L i) hi
      have hLi := hle i hi
      have := ih (i + 1) (by omega) (by omega)
      have hiv : rl_mix i (rl_nf (rl_rl ct L) (fun p => nI (g p (L p))) IV) IV i = nI (iv i) := by rw [rl_mix_ge (Nat.le_refl _)]; exact hIV i
      have hcp := hx i hi
      by_cases a : iv i < rl_G ct g iv i (L i)
      · have hc : ¬ L i < ct i := by
          intro z
          rw [rl_G_in z] at a
          have := s4 _ z
          omega
        have hr : ¬ rl_rl ct L i = true := fun z => hc (of_decide_eq_true z)
        have htb : rl_mix (i * 100) (rl_tr (rl_rl ct L) (fun p => rl_G ct g iv p (L p)) TB) TB = rl_mix ((i + 1) * 100) (rl_tr (rl_rl ct L) (fun p => rl_G ct g iv p (L p)) TB) TB := by
          have h1 : (i + 1) * 100 = i * 100 + 100 := by omega
          rw [h1]
          refine rl_mix_kk (fun q b1 b2 => ?_)
          have h2 : q / 100 = i := by omega
          unfold rl_tr
          rw [h2, if_neg (fun z => hr z.1)]
        rw [rl_ad_f hr, ← rl_mix_k (show rl_nf (rl_rl ct L) (fun p => TS (p * 100 + g p (L p))) vY i = vY i from if_neg hr), ← rl_mix_k (show rl_nf (rl_rl ct L) (fun p => nI (g p (L p))) IV i = IV i from if_neg hr),
          ← htb, ← rl_mix_s (i := i) (a := fun _ => (1 : Int32)) (x := 1) rfl] at this
        simp (disch := omega) only [wY_recover_112, e, hiv, hcp, a, forall_eq, Nat.le_refl, rl_10, rl_n10, nI_leI, nI_ltI, nI_eq, vp_in_nI, nI_clamp, nI_1, nI_add, rl_lt0, rl_0le, rl_eq0, rl_eq1, rl_eq2, rl_m1, rl_m8, rl_m100, rl_vb0, rl_vb1, true_implies, forall_const, not_true_eq_false, not_false_eq_true, false_implies, and_true, true_and, implies_true, and_self]
        exact this
      · have hc : L i < ct i := by
          by_cases z : L i < ct i
          · exact z
          · rw [rl_G_now z] at a; omega
        have hr : rl_rl ct L i = true := decide_eq_true hc
        have hg := s4 _ hc
        rw [rl_ad_t hr, ← rl_mix_s (show TS (i * 100 + g i (L i)) = rl_nf (rl_rl ct L) (fun p => TS (p * 100 + g p (L p))) vY i from (if_pos hr).symm), ← rl_mix_s (show nI (g i (L i)) = rl_nf (rl_rl ct L) (fun p => nI (g p (L p))) IV i from (if_pos hr).symm),
          ← rl_mix_s (i := i) (a := fun _ => (1 : Int32)) (x := 1) rfl] at this
        simp (disch := omega) only [wY_recover_112, e, hiv, hcp, a, forall_eq, Nat.le_refl, rl_10, rl_n10, nI_leI, nI_ltI, nI_eq, vp_in_nI, nI_clamp, nI_1, nI_add, rl_lt0, rl_0le, rl_eq0, rl_eq1, rl_eq2, rl_m1, rl_m8, rl_m100, rl_vb0, rl_vb1, true_implies, forall_const, not_true_eq_false, not_false_eq_true, false_implies, and_true, true_and, implies_true, and_self]
        rw [rl_G_in hc] at hcp
        have h3 := ry_rC (n := n) (c := c) (m := m) (post := post) (f := rl_rl ct L) (x := fun p => rl_G ct g iv p (L p)) (by omega) (by omega) hcp hr (rl_G_in hc) this 101 0 (by omega) (by omega)
        rw [rl_vi_f (by omega)] at h3
        exact ⟨_, h3⟩
theorem ry_recover (hB : rl_AY n c m iv ct g st sd rc si ri IV TB ST SD RC SI RI) {post : Int32 → SY → Prop} {L : Nat → Nat} (hL : rl_IsL n (rl_tp ct (rl_or (rl_dn U) n)) (rl_C m iv ct g st sd rc si ri) L) (h0 : rl_or (rl_dn U) n = 0 → post 0 (nI n, nI c, nI m, vY, IV, U, TB, TS, ST, SD, RC, PL, SI, RI, CP, KP, SL))
    (h1 : ¬ rl_or (rl_dn U) n = 0 → ∀ CP', post (rl_or (rl_rl ct L) n) (nI n, nI c, nI m, rl_mix n (rl_nf (rl_rl ct L) (fun p => TS (p * 100 + g p (L p))) vY) vY, rl_mix n (rl_nf (rl_rl ct L) (fun p => nI (g p (L p))) IV) IV, rl_mix n (fun _ => 1) U, rl_mix (n * 100) (rl_tr (rl_rl ct L) (fun p => rl_G ct g iv p (L p)) TB) TB, TS, rl_mix m (fun s => nI (rl_rb st sd rc si ri (fun p => rl_G ct g iv p (L p)) s)) ST, SD, RC, PL, SI, RI, CP', KP, SL)) :
    wpY_recover post (nI n, nI c, nI m, vY, IV, U, TB, TS, ST, SD, RC, PL, SI, RI, CP, KP, SL) := by
  have hB' := hB
  obtain ⟨hW, hIV, hT, hST, hSD, hRC, hSI, hRI⟩ := hB'
  have hW' := hW
  obtain ⟨⟨⟨n2, n4⟩, ⟨c3, c8⟩, ⟨m4, m16⟩⟩, hS, hM, _⟩ := hW'
  simp only [wpY_recover]
  refine ry_down n2 n4 ?_
  try dsimp only
  by_cases e : rl_or (rl_dn U) n = 0
  · simp (disch := omega) only [e, forall_eq, Nat.le_refl, rl_10, rl_n10, nI_leI, nI_ltI, nI_eq, vp_in_nI, nI_clamp, nI_1, nI_add, rl_lt0, rl_0le, rl_eq0, rl_eq1, rl_eq2, rl_m1, rl_m8, rl_m100, rl_vb0, rl_vb1, true_implies, forall_const, not_true_eq_false, not_false_eq_true, false_implies, and_true, true_and, implies_true, and_self]
    exact h0 e
  · simp (disch := omega) only [e, forall_eq, Nat.le_refl, rl_10, rl_n10, nI_leI, nI_ltI, nI_eq, vp_in_nI, nI_clamp, nI_1, nI_add, rl_lt0, rl_0le, rl_eq0, rl_eq1, rl_eq2, rl_m1, rl_m8, rl_m100, rl_vb0, rl_vb1, true_implies, forall_const, not_true_eq_false, not_false_eq_true, false_implies, and_true, true_and, implies_true, and_self]
    refine ry_line hB hL (fun CP1 r1 => ?_)
    try dsimp only
    have hp := h1 e CP1
    rw [rl_orad _ n2 n4] at hp
    have h2 := ry_rB hB r1 (fun p hp => Nat.le_trans (hL.1 p hp) (rl_tp_le ct _ p)) hp (n + 1) 0 (by omega) (by omega)
    rw [rl_mix_0, rl_mix_0, rl_mix_0, Nat.zero_mul, rl_mix_0] at h2
    have := ry_rA hB (post := post) (CP := CP1) (x := fun p => rl_G ct g iv p (L p)) r1 (fun p hp => rl_G_100 hS _ hp) ⟨_, h2⟩ (m + 1) 0 (by omega) (by omega)
    rw [rl_mix_0] at this
    exact ⟨_, this⟩
end
end
section
theorem rl_mn {n p : Nat} {f : Nat → Bool} {a b : Nat → Int32} : rl_mix n (rl_nf f a b) b p = if p < n ∧ f p = true then a p else b p := by
  by_cases h : p < n
  · rw [rl_mix_lt h]
    by_cases e : f p = true
    · rw [if_pos ⟨h, e⟩]; exact if_pos e
    · rw [if_neg (fun z => e z.2)]; exact if_neg e
  · rw [rl_mix_ge (by omega), if_neg (fun z => h z.1)]
theorem rl_mix_eq {n : Nat} {a a' b : Nat → Int32} (h : ∀ q, q < n → a q = a' q) : rl_mix n a b = rl_mix n a' b := by
  funext q
  by_cases e : q < n
  · rw [rl_mix_lt e, rl_mix_lt e, h q e]
  · rw [rl_mix_ge (by omega), rl_mix_ge (by omega)]
section
variable {n c m : Nat} {iv ct st sd rc si ri : Nat → Nat} {g : Nat → Nat → Nat}
variable {vX vY IV U CT NB SV TB TS ST SD RC SI RI : Nat → Int32}
theorem rl_R_recover (hR : rl_R n c m iv ct g st sd rc si ri vX vY IV U CT NB SV TB TS ST SD RC SI RI) {L : Nat → Nat}
    (hL : rl_IsL n (rl_tp ct (rl_or (rl_dn U) n)) (rl_C m iv ct g st sd rc si ri) L) :
    rl_R n c m (fun p => if p < n ∧ L p < ct p then g p (L p) else iv p) (fun p => if p < n ∧ L p < ct p then L p + 1 else ct p) g
      (fun s => if s < m then rl_rb st sd rc si ri (fun p => rl_G ct g iv p (L p)) s else st s) sd rc si ri
      (rl_mix n (rl_nf (rl_rl ct L) (fun p => SV (p * 8 + L p)) vX) vX) (rl_mix n (rl_nf (rl_rl ct L) (fun p => TS (p * 100 + g p (L p))) vY) vY)
      (rl_mix n (rl_nf (rl_rl ct L) (fun p => nI (g p (L p))) IV) IV) (rl_mix n (fun _ => 1) U) (rl_mix n (rl_nf (rl_rl ct L) (fun p => nI (L p + 1)) CT) CT) NB SV
      (rl_mix (n * 100) (rl_tr (rl_rl ct L) (fun p => rl_G ct g iv p (L p)) TB) TB) TS
      (rl_mix m (fun s => nI (rl_rb st sd rc si ri (fun p => rl_G ct g iv p (L p)) s)) ST) SD RC SI RI := by
  obtain ⟨hA, ⟨hT1, hT2, hT3⟩, hU, hV⟩ := hR
  have hA' := hA
  obtain ⟨hW, hIV, hCT, hNB, hST, hSD, hRC, hSI, hRI⟩ := hA'
  have hW' := hW
  obtain ⟨⟨⟨n2, n4⟩, ⟨c3, c8⟩, ⟨m4, m16⟩⟩, hS, hM, hB⟩ := hW'
  have hrl : ∀ p, rl_rl ct L p = true ↔ L p < ct p := fun p => decide_eq_true_iff
  have hrb2 : ∀ s, rl_rb st sd rc si ri (fun p => rl_G ct g iv p (L p)) s = 2 → st s = 2 ∧ ri s < rl_G ct g iv (rc s) (L (rc s)) := by
    intro s h
    unfold rl_rb at h
    by_cases z : st s = 0
    · rw [if_pos z] at h; omega
    · rw [if_neg z] at h
      by_cases a : si s < rl_G ct g iv (sd s) (L (sd s))
      · rw [if_pos a] at h
        by_cases b : st s = 2 ∧ ¬ ri s < rl_G ct g iv (rc s) (L (rc s))
        · rw [if_pos b] at h; omega
        · rw [if_neg b] at h
          refine ⟨h, ?_⟩
          apply Classical.byContradiction
          intro w
          exact b ⟨h, w⟩
      · rw [if_neg a] at h; omega
  have hrb1 : ∀ s, rl_rb st sd rc si ri (fun p => rl_G ct g iv p (L p)) s ≤ 2 := by
    intro s
    have := (hM.1 s).1
    unfold rl_rb
    split
    · omega
    · split
      · split <;> omega
      · omega
  have hW2 := rl_W_recover hW hL (iv' := fun p => if p < n ∧ L p < ct p then g p (L p) else iv p) (ct' := fun p => if p < n ∧ L p < ct p then L p + 1 else ct p)
    (st' := fun s => if s < m then rl_rb st sd rc si ri (fun p => rl_G ct g iv p (L p)) s else st s)
    (fun p hp => ⟨fun h => ⟨if_pos ⟨hp, h⟩, if_pos ⟨hp, h⟩⟩, fun h => ⟨if_neg (fun z => h z.2), if_neg (fun z => h z.2)⟩⟩)
    (fun s => by
      have := (hM.1 s).1
      have := hrb1 s
      show (if s < m then rl_rb st sd rc si ri (fun p => rl_G ct g iv p (L p)) s else st s) ≤ 2
      split <;> omega)
    (fun s hs h => by
      have h' : (if s < m then rl_rb st sd rc si ri (fun p => rl_G ct g iv p (L p)) s else st s) = 2 := h
      rw [if_pos hs] at h'
      exact hrb2 s h')
  refine ⟨⟨hW2, fun p => ?_, fun p => ?_, fun p hp k hk => ?_, fun s => ?_, hSD, hRC, hSI, hRI⟩, ⟨fun p hp i hi => ?_, fun i hi => ?_, fun p hp k hk => ?_⟩, fun p => ?_, fun p hp hu => ?_⟩
  · rw [rl_mn]
    by_cases h : p < n ∧ L p < ct p
    · rw [if_pos ⟨h.1, (hrl p).mpr h.2⟩]
      show _ = nI (if p < n ∧ L p < ct p then g p (L p) else iv p)
      rw [if_pos h]
    · rw [if_neg (fun z => h ⟨z.1, (hrl p).mp z.2⟩)]
      show _ = nI (if p < n ∧ L p < ct p then g p (L p) else iv p)
      rw [if_neg h]
      exact hIV p
  · rw [rl_mn]
    by_cases h : p < n ∧ L p < ct p
    · rw [if_pos ⟨h.1, (hrl p).mpr h.2⟩]
      show _ = nI (if p < n ∧ L p < ct p then L p + 1 else ct p)
      rw [if_pos h]
    · rw [if_neg (fun z => h ⟨z.1, (hrl p).mp z.2⟩)]
      show _ = nI (if p < n ∧ L p < ct p then L p + 1 else ct p)
      rw [if_neg h]
      exact hCT p
  · refine hNB p hp k ?_
    have hk' : k < if p < n ∧ L p < ct p then L p + 1 else ct p := hk
    by_cases h : p < n ∧ L p < ct p
    · rw [if_pos h] at hk'; omega
    · rw [if_neg h] at hk'; exact hk'
  · show _ = nI (if s < m then rl_rb st sd rc si ri (fun p => rl_G ct g iv p (L p)) s else st s)
    by_cases h : s < m
    · rw [rl_mix_lt h, if_pos h]
    · rw [rl_mix_ge (by omega), if_neg h]; exact hST s
  · show ¬ _ = 0 ↔ ∃ k, k < (if p < n ∧ L p < ct p then L p + 1 else ct p) ∧ g p k = i
    obtain ⟨s1, s2, s3, s4, s5⟩ := hS p hp
    have d1 : (p * 100 + i) % 100 = i := by omega
    have d2 : (p * 100 + i) / 100 = p := by omega
    rw [rl_mix_lt (by omega)]
    unfold rl_tr
    rw [d1, d2]
    by_cases h : L p < ct p
    · rw [if_pos (c := p < n ∧ L p < ct p) ⟨hp, h⟩]
      by_cases l : rl_G ct g iv p (L p) < i
      · rw [if_pos ⟨(hrl p).mpr h, l⟩]
        rw [rl_G_in h] at l
        refine ⟨fun z => absurd rfl z, fun ⟨k, hk, ek⟩ => ?_⟩
        exfalso
        by_cases q : k = L p
        · rw [q] at ek; omega
        · have := s3 k (L p) (by omega) h; omega
      · rw [if_neg (fun z => l z.2), hT1 p hp i hi]
        rw [rl_G_in h] at l
        constructor
        · rintro ⟨k, hk, ek⟩
          refine ⟨k, ?_, ek⟩
          by_cases q : L p < k
          · have := s3 _ _ q hk; omega
          · omega
        · rintro ⟨k, hk, ek⟩
          exact ⟨k, by omega, ek⟩
    · rw [if_neg (c := p < n ∧ L p < ct p) (fun z => h z.2), if_neg (fun z => h ((hrl p).mp z.1)), hT1 p hp i hi]
  · rw [rl_mix_ge hi]; exact hT2 i hi
  · refine hT3 p hp k ?_
    have hk' : k < if p < n ∧ L p < ct p then L p + 1 else ct p := hk
    by_cases h : p < n ∧ L p < ct p
    · rw [if_pos h] at hk'; omega
    · rw [if_neg h] at hk'; exact hk'
  · by_cases h : p < n
    · rw [rl_mix_lt h]; exact Or.inr rfl
    · rw [rl_mix_ge (by omega)]; exact hU p
  · rw [rl_mn, rl_mn]
    by_cases h : L p < ct p
    · rw [if_pos ⟨hp, (hrl p).mpr h⟩, if_pos ⟨hp, (hrl p).mpr h⟩]
      exact hT3 p hp _ h
    · rw [if_neg (fun z => h ((hrl p).mp z.2)), if_neg (fun z => h ((hrl p).mp z.2))]
      refine hV p hp (fun z => ?_)
      have hb := rl_bit (rl_dn U) n2 n4 hp (decide_eq_true z)
      have ht : rl_tp ct (rl_or (rl_dn U) n) p = ct p - 1 := if_neg hb
      have h1 := hL.1 p hp
      have h2 := (hS p hp).1
      omega
theorem rl_R_reclaim (hR : rl_R n c m iv ct g st sd rc si ri vX vY IV U CT NB SV TB TS ST SD RC SI RI) {Ls : Int32 → Nat → Nat}
    (hL : ∀ T, rl_IsL n (rl_tp ct T) (rl_C m iv ct g st sd rc si ri) (Ls T)) {ND SE NB' SV' KP SL : Nat → Int32} {f : Nat → Nat → Nat}
    (r1 : ∀ p, p < n → ∀ k, k < ct p → (¬ ND (p * 8 + k) = 0 ↔ rl_Nd (rl_or (rl_dn U) n) Ls (2 ^ n) p k))
    (r2 : ∀ s, s < m → (¬ SE s = 0 ↔ rl_Se (rl_or (rl_dn U) n) (fun T p => rl_G ct g iv p (Ls T p)) st rc ri (2 ^ n) s))
    (r3 : ∀ p, p < n → rl_Sub (rl_nd ND p) (ct p) (rl_cn (rl_nd ND p) (ct p)) (f p))
    (r4 : ∀ p, p < n → ∀ j, j < rl_cn (rl_nd ND p) (ct p) → NB' (p * 8 + j) = NB (p * 8 + f p j) ∧ SV' (p * 8 + j) = SV (p * 8 + f p j))
    (r5 : ∀ p, p < n → ∀ k, k < ct p → (¬ KP (p * 100 + g p k) = 0 ↔ rl_Nd (rl_or (rl_dn U) n) Ls (2 ^ n) p k))
    (r6 : ∀ s, s < m → (¬ SL s = 0 ↔ rl_Se (rl_or (rl_dn U) n) (fun T p => rl_G ct g iv p (Ls T p)) st rc ri (2 ^ n) s)) :
    rl_mix m (rl_cl SL ST) ST = rl_mix m (rl_cl SE ST) ST ∧
    100 * rl_cn (rl_dr KP TB) 400 + rl_cn (rl_nz SL) m = 100 * rl_sum (fun q => ct q - rl_cn (rl_nd ND q) (ct q)) n + rl_cn (rl_nz SE) m ∧
    rl_R n c m iv (fun p => if p < n then rl_cn (rl_nd ND p) (ct p) else ct p) (fun p j => g p (f p j)) (fun s => if s < m ∧ ¬ SE s = 0 then 0 else st s) sd rc si ri vX vY IV U
      (rl_mix n (fun q => nI (rl_cn (rl_nd ND q) (ct q))) CT) NB' SV' (rl_mix 400 (rl_tb KP TB) TB) TS (rl_mix m (rl_cl SE ST) ST) SD RC SI RI := by
  obtain ⟨hA, ⟨hT1, hT2, hT3⟩, hU, hV⟩ := hR
  have hA' := hA
  obtain ⟨hW, hIV, hCT, hNB, hST, hSD, hRC, hSI, hRI⟩ := hA'
  have hW' := hW
  obtain ⟨⟨⟨n2, n4⟩, ⟨c3, c8⟩, ⟨m4, m16⟩⟩, hS, hM, hB⟩ := hW'
  have h16 := rl_16 n4
  have hnd : ∀ p k, rl_nd ND p k = true ↔ ¬ ND (p * 8 + k) = 0 := fun p k => decide_eq_true_iff
  have hss : ∀ s, s < m → (SE s = 0 ↔ SL s = 0) := by
    intro s hs
    have := (r2 s hs).trans (r6 s hs).symm
    by_cases a : SE s = 0 <;> by_cases b : SL s = 0
    · exact ⟨fun _ => b, fun _ => a⟩
    · exact absurd a (this.mpr b)
    · exact absurd b (this.mp a)
    · exact ⟨fun z => absurd z a, fun z => absurd z b⟩
  have hKN : ∀ p, p < n → ∀ k, k < ct p → (¬ KP (p * 100 + g p k) = 0 ↔ ∃ j, j < rl_cn (rl_nd ND p) (ct p) ∧ f p j = k) := by
    intro p hp k hk
    rw [r5 p hp k hk, ← r1 p hp k hk, ← hnd]
    constructor
    · intro h; exact (r3 p hp).2.2.1 k hk h
    · rintro ⟨j, hj, ej⟩
      rw [← ej]
      exact ((r3 p hp).1 j hj).2
  refine ⟨?_, ?_, ?_⟩
  · refine rl_mix_eq (fun s hs => ?_)
    unfold rl_cl
    by_cases a : SE s = 0
    · rw [if_pos a, if_pos ((hss s hs).mp a)]
    · rw [if_neg a, if_neg (fun z => a ((hss s hs).mpr z))]
  · have e1 : rl_cn (rl_nz SL) m = rl_cn (rl_nz SE) m := by
      refine rl_cn_eq m (fun s hs => ?_)
      unfold rl_nz
      rw [decide_eq_true_iff, decide_eq_true_iff, hss s hs]
    have e2 : rl_cn (rl_dr KP TB) 400 = rl_sum (fun q => ct q - rl_cn (rl_nd ND q) (ct q)) n := by
      rw [rl_cn400 n4 (fun i hi z => ?_)]
      · refine rl_sum_eq n (fun p hp => ?_)
        exact rl_cntD hS hp (hT1 p hp) (hKN p hp) (fun j hj => ((r3 p hp).1 j hj).1) (r3 p hp).2.1
      · have := hT2 i hi
        unfold rl_dr at z
        simp [this] at z
    rw [e1, e2]
  · have hall : ∀ p, p < n → Ls (nI (2 ^ n - 1)) p < ct p := by
      intro p hp
      have h1 := (hL (nI (2 ^ n - 1))).1 p hp
      have ht : rl_tp ct (nI (2 ^ n - 1)) p = ct p - 1 := if_neg (rl_allp n2 n4 hp)
      have h2 := (hS p hp).1
      omega
    have hpos : 0 < 2 ^ n := Nat.pow_pos (by omega)
    have hW2 := rl_W_reclaim hW (hL (nI (2 ^ n - 1))) hall (ct' := fun p => if p < n then rl_cn (rl_nd ND p) (ct p) else ct p) (g' := fun p j => g p (f p j)) (f := f)
      (fun p hp => by show (if p < n then rl_cn (rl_nd ND p) (ct p) else ct p) ≤ ct p; rw [if_pos hp]; exact rl_cn_le _ _)
      (fun p hp j hj => by
        have hj' : j < if p < n then rl_cn (rl_nd ND p) (ct p) else ct p := hj
        rw [if_pos hp] at hj'
        exact ⟨((r3 p hp).1 j hj').1, rfl⟩)
      (fun p hp i j hij hj => by
        have hj' : j < if p < n then rl_cn (rl_nd ND p) (ct p) else ct p := hj
        rw [if_pos hp] at hj'
        exact (r3 p hp).2.1 i j hij hj')
      (fun p hp => by
        show ∃ j, j < (if p < n then rl_cn (rl_nd ND p) (ct p) else ct p) ∧ f p j = Ls (nI (2 ^ n - 1)) p
        rw [if_pos hp]
        refine (r3 p hp).2.2.1 _ (hall p hp) ((hnd p _).mpr ((r1 p hp _ (hall p hp)).mpr ?_))
        exact ⟨2 ^ n - 1, by omega, rl_all (rl_dn U) n2 n4, rfl⟩)
    have hW3 := rl_W_drop hW2 (st' := fun s => if s < m ∧ ¬ SE s = 0 then 0 else st s) (fun s => by
      show (if s < m ∧ ¬ SE s = 0 then 0 else st s) = st s ∨ (if s < m ∧ ¬ SE s = 0 then 0 else st s) = 0
      split
      · exact Or.inr rfl
      · exact Or.inl rfl)
    refine ⟨⟨hW3, hIV, fun p => ?_, fun p hp k hk => ?_, fun s => ?_, hSD, hRC, hSI, hRI⟩, ⟨fun p hp i hi => ?_, fun i hi => ?_, fun p hp k hk => ?_⟩, hU, hV⟩
    · show _ = nI (if p < n then rl_cn (rl_nd ND p) (ct p) else ct p)
      by_cases h : p < n
      · rw [rl_mix_lt h, if_pos h]
      · rw [rl_mix_ge (by omega), if_neg h]; exact hCT p
    · have hk' : k < if p < n then rl_cn (rl_nd ND p) (ct p) else ct p := hk
      rw [if_pos hp] at hk'
      rw [(r4 p hp k hk').1]
      exact hNB p hp _ ((r3 p hp).1 k hk').1
    · show _ = nI (if s < m ∧ ¬ SE s = 0 then 0 else st s)
      by_cases h : s < m
      · rw [rl_mix_lt h]
        unfold rl_cl
        by_cases a : SE s = 0
        · rw [if_pos a, if_neg (fun z => z.2 a)]; exact hST s
        · rw [if_neg a, if_pos ⟨h, a⟩]; rfl
      · rw [rl_mix_ge (by omega), if_neg (fun z => h z.1)]; exact hST s
    · show ¬ _ = 0 ↔ ∃ k, k < (if p < n then rl_cn (rl_nd ND p) (ct p) else ct p) ∧ g p (f p k) = i
      rw [if_pos hp, rl_mix_lt (by omega)]
      unfold rl_tb
      by_cases a : KP (p * 100 + i) = 0
      · rw [if_pos a]
        refine ⟨fun z => absurd rfl z, fun ⟨j, hj, ej⟩ => ?_⟩
        exfalso
        have hfj := ((r3 p hp).1 j hj).1
        have := (hKN p hp _ hfj).mpr ⟨j, hj, rfl⟩
        rw [ej] at this
        exact this a
      · rw [if_neg a, hT1 p hp i hi]
        constructor
        · rintro ⟨k, hk, ek⟩
          rw [← ek] at a
          obtain ⟨j, hj, ej⟩ := (hKN p hp k hk).mp a
          exact ⟨j, hj, by rw [ej, ek]⟩
        · rintro ⟨j, hj, ej⟩
          exact ⟨f p j, ((r3 p hp).1 j hj).1, ej⟩
    · by_cases h : i < 400
      · rw [rl_mix_lt h]
        unfold rl_tb
        rw [hT2 i hi]
        split <;> rfl
      · rw [rl_mix_ge (by omega)]; exact hT2 i hi
    · have hk' : k < if p < n then rl_cn (rl_nd ND p) (ct p) else ct p := hk
      rw [if_pos hp] at hk'
      rw [(r4 p hp k hk').2]
      exact hT3 p hp _ ((r3 p hp).1 k hk').1
end
end
section
section
variable {n c m : Nat} {iv ct st sd rc si ri : Nat → Nat} {g : Nat → Nat → Nat}
variable {vX vY IV U CT NB SV TB TS ST SD RC SI RI : Nat → Int32}
theorem rl_R_check (hR : rl_R n c m iv ct g st sd rc si ri vX vY IV U CT NB SV TB TS ST SD RC SI RI) {p : Nat} (hp : p < n) (h99 : iv p < 99) (hc : ct p < c) (hu : ¬ U p = 0) :
    rl_R n c m (rl_u iv p (iv p + 1)) (rl_u ct p (ct p + 1)) (rl_gC g p (ct p) (iv p + 1)) st sd rc si ri vX vY (upd IV p (nI (iv p + 1))) U (upd CT p (nI (ct p + 1)))
      (upd NB (p * 8 + ct p) (nI (iv p + 1))) (upd SV (p * 8 + ct p) (vX p)) (upd TB (p * 100 + (iv p + 1)) 1) (upd TS (p * 100 + (iv p + 1)) (vY p)) ST SD RC SI RI := by
  obtain ⟨hA, ⟨hT1, hT2, hT3⟩, hU, hV⟩ := hR
  have hA' := hA
  obtain ⟨hW, hIV, hCT, hNB, hST, hSD, hRC, hSI, hRI⟩ := hA'
  have hW' := hW
  obtain ⟨⟨⟨n2, n4⟩, ⟨c3, c8⟩, ⟨m4, m16⟩⟩, hS, hM, hB⟩ := hW'
  have hct : ∀ q, q < n → ct q ≤ 8 := fun q hq => Nat.le_trans (hS q hq).2.1 c8
  refine ⟨⟨rl_W_check hW hp h99 hc, rl_uI hIV p _, rl_uI hCT p _, fun q hq k hk => ?_, hST, hSD, hRC, hSI, hRI⟩, ⟨fun q hq i hi => ?_, fun i hi => ?_, fun q hq k hk => ?_⟩, hU, hV⟩
  · have hq8 := hct q hq
    by_cases e : q = p
    · rw [e] at hk hq8 ⊢
      rw [rl_us] at hk
      by_cases ek : k = ct p
      · rw [ek, pk_us, rl_gC_s]
      · rw [pk_un (by omega), rl_gC_n (fun z => ek z.2)]
        exact hNB p hp k (by omega)
    · rw [rl_un e] at hk
      rw [pk_un (by omega), rl_gC_n (fun z => e z.1)]
      exact hNB q hq k hk
  · obtain ⟨s1, s2, s3, s4, s5⟩ := hS q hq
    by_cases e : q = p
    · rw [e] at s4 ⊢
      rw [rl_us]
      by_cases ei : i = iv p + 1
      · rw [ei, pk_us]
        exact ⟨fun _ => ⟨ct p, by omega, rl_gC_s⟩, fun _ => by decide⟩
      · rw [pk_un (by omega), hT1 p hp i hi]
        constructor
        · rintro ⟨k, hk, ek⟩
          exact ⟨k, by omega, by rw [rl_gC_n (fun z => by omega)]; exact ek⟩
        · rintro ⟨k, hk, ek⟩
          by_cases q2 : k = ct p
          · rw [q2, rl_gC_s] at ek; omega
          · rw [rl_gC_n (fun z => q2 z.2)] at ek
            exact ⟨k, by omega, ek⟩
    · rw [rl_un e, pk_un (by omega), hT1 q hq i hi]
      constructor
      · rintro ⟨k, hk, ek⟩
        exact ⟨k, hk, by rw [rl_gC_n (fun z => e z.1)]; exact ek⟩
      · rintro ⟨k, hk, ek⟩
        rw [rl_gC_n (fun z => e z.1)] at ek
        exact ⟨k, hk, ek⟩
  · rw [pk_un (by omega)]; exact hT2 i hi
  · obtain ⟨s1, s2, s3, s4, s5⟩ := hS q hq
    have hq8 := hct q hq
    by_cases e : q = p
    · rw [e] at hk s4 hq8 ⊢
      rw [rl_us] at hk
      by_cases ek : k = ct p
      · rw [ek, pk_us, rl_gC_s, pk_us]; exact hV p hp hu
      · have hg := s4 k (by omega)
        rw [pk_un (by omega), rl_gC_n (fun z => ek z.2), pk_un (by omega)]
        exact hT3 p hp k (by omega)
    · rw [rl_un e] at hk
      have hg := s4 k hk
      rw [pk_un (by omega), rl_gC_n (fun z => e z.1), pk_un (by omega)]
      exact hT3 q hq k hk
end
section
variable {n c m : Nat} {iv ct st sd rc si ri : Nat → Nat} {g : Nat → Nat → Nat}
variable {vX IV U CT NB SV ST SD RC PL SI RI LN ND SE : Nat → Int32}
theorem rx_empty_l {post : Int32 → Prop} (m16 : m ≤ 16) (hST : ∀ s, ST s = nI (st s)) (h2 : ∀ s, st s ≤ 2) (h1 : ∀ s, s < m → st s = 0 → (∀ j, j < s → ¬ st j = 0) → post (nI s))
    (h0 : (∀ s, s < m → ¬ st s = 0) → post (-4)) : ∀ (fu s : Nat), m < fu + s → s ≤ m → (∀ j, j < s → ¬ st j = 0) → wX_firstEmptySlot_2 post (nI n) (nI c) (nI m) vX IV U CT NB SV ST SD RC PL SI RI LN ND SE fu (nI s) := by
  intro fu
  induction fu with
  | zero => intro s q1 q2; omega
  | succ fu ih =>
    intro s q1 q2 q3
    have h2s := h2 s
    by_cases e : m ≤ s
    · simp (disch := omega) only [wX_firstEmptySlot_2, e, forall_eq, Nat.le_refl, rl_10, rl_n10, nI_leI, nI_ltI, nI_eq, vp_in_nI, nI_clamp, nI_1, nI_add, rl_lt0, rl_0le, rl_eq0, rl_eq1, rl_eq2, rl_m1, rl_m8, rl_m100, rl_vb0, rl_vb1, true_implies, forall_const, not_true_eq_false, not_false_eq_true, false_implies, and_true, true_and, implies_true, and_self]
      exact h0 (fun j hj => q3 j (by omega))
    · by_cases a : st s = 0
      · simp (disch := omega) only [wX_firstEmptySlot_2, e, hST, a, forall_eq, Nat.le_refl, rl_10, rl_n10, nI_leI, nI_ltI, nI_eq, vp_in_nI, nI_clamp, nI_1, nI_add, rl_lt0, rl_0le, rl_eq0, rl_eq1, rl_eq2, rl_m1, rl_m8, rl_m100, rl_vb0, rl_vb1, true_implies, forall_const, not_true_eq_false, not_false_eq_true, false_implies, and_true, true_and, implies_true, and_self]
        exact h1 s (by omega) a q3
      · simp (disch := omega) only [wX_firstEmptySlot_2, e, hST, a, forall_eq, Nat.le_refl, rl_10, rl_n10, nI_leI, nI_ltI, nI_eq, vp_in_nI, nI_clamp, nI_1, nI_add, rl_lt0, rl_0le, rl_eq0, rl_eq1, rl_eq2, rl_m1, rl_m8, rl_m100, rl_vb0, rl_vb1, true_implies, forall_const, not_true_eq_false, not_false_eq_true, false_implies, and_true, true_and, implies_true, and_self]
        refine ih (s + 1) (by omega) (by omega) (fun j hj => ?_)
        by_cases q : j = s
        · rw [q]; exact a
        · exact q3 j (by omega)
theorem rx_empty {post : Int32 → Prop} (m16 : m ≤ 16) (hST : ∀ s, ST s = nI (st s)) (h2 : ∀ s, st s ≤ 2) (h1 : ∀ s, s < m → st s = 0 → (∀ j, j < s → ¬ st j = 0) → post (nI s))
    (h0 : (∀ s, s < m → ¬ st s = 0) → post (-4)) : wpX_firstEmptySlot post (nI n, nI c, nI m, vX, IV, U, CT, NB, SV, ST, SD, RC, PL, SI, RI, LN, ND, SE) := by
  simp only [wpX_firstEmptySlot]
  exact ⟨m + 1, rx_empty_l m16 hST h2 h1 h0 (m + 1) 0 (by omega) (by omega) (fun j hj => absurd hj (by omega))⟩
end
section
variable {n c m : Nat} {iv ct st sd rc si ri : Nat → Nat} {g : Nat → Nat → Nat}
variable {vY IV U TB TS ST SD RC PL SI RI CP KP SL : Nat → Int32}
theorem ry_isStN {post : Int32 → Prop} {x y : Int32} (h : x < 0) (k : post 0) : wpY_isStored post (nI n, nI c, nI m, vY, IV, U, TB, TS, ST, SD, RC, PL, SI, RI, CP, KP, SL) y x := by
  simp only [wpY_isStored, h, forall_eq, Nat.le_refl, rl_10, rl_n10, nI_leI, nI_ltI, nI_eq, vp_in_nI, nI_clamp, nI_1, nI_add, rl_lt0, rl_0le, rl_eq0, rl_eq1, rl_eq2, rl_m1, rl_m8, rl_m100, rl_vb0, rl_vb1, true_implies, forall_const, not_true_eq_false, not_false_eq_true, false_implies, and_true, true_and, implies_true, and_self]
  exact k
theorem ry_isStG {post : Int32 → Prop} {x y : Int32} (h : nI 100 ≤ x) (k : post 0) : wpY_isStored post (nI n, nI c, nI m, vY, IV, U, TB, TS, ST, SD, RC, PL, SI, RI, CP, KP, SL) y x := by
  have h0 : ¬ x < 0 := Int32.not_lt.mpr (Int32.le_trans (by decide) h)
  have h9 : 99 < x := Int32.lt_of_lt_of_le (b := nI 100) (by decide) h
  simp only [wpY_isStored, h0, h9, forall_eq, Nat.le_refl, rl_10, rl_n10, nI_leI, nI_ltI, nI_eq, vp_in_nI, nI_clamp, nI_1, nI_add, rl_lt0, rl_0le, rl_eq0, rl_eq1, rl_eq2, rl_m1, rl_m8, rl_m100, rl_vb0, rl_vb1, true_implies, forall_const, not_true_eq_false, not_false_eq_true, false_implies, and_true, true_and, implies_true, and_self]
  exact k
theorem ry_send_l {post : Int32 → SY → Prop} {p q s0 : Nat} (hp : p < 4) (hIV : ∀ p, IV p = nI (iv p)) (m16 : m ≤ 16) (hST : ∀ s, ST s = nI (st s)) (h2 : ∀ s, st s ≤ 2) (hs0 : s0 < m) (he : st s0 = 0) (hne : ∀ j, j < s0 → ¬ st j = 0)
    (hpost : post (nI s0) (nI n, nI c, nI m, vY, IV, U, TB, TS, upd ST s0 1, upd SD s0 (nI p), upd RC s0 (nI q), upd PL s0 (vY p), upd SI s0 (nI (iv p)), RI, CP, KP, SL)) :
    ∀ (fu s : Nat), m < fu + s → s ≤ s0 → wY_send_37 post (nI p) (nI q) (nI n) (nI c) (nI m) vY IV U TB TS ST SD RC PL SI RI CP KP SL fu (nI s) := by
  intro fu
  induction fu with
  | zero => intro s q1 q2; omega
  | succ fu ih =>
    intro s q1 q2
    have h2s := h2 s
    have e : ¬ m ≤ s := by omega
    by_cases a : s = s0
    · rw [a]
      have e' : ¬ m ≤ s0 := by omega
      simp (disch := omega) only [wY_send_37, e', hST, he, hIV, forall_eq, Nat.le_refl, rl_10, rl_n10, nI_leI, nI_ltI, nI_eq, vp_in_nI, nI_clamp, nI_1, nI_add, rl_lt0, rl_0le, rl_eq0, rl_eq1, rl_eq2, rl_m1, rl_m8, rl_m100, rl_vb0, rl_vb1, true_implies, forall_const, not_true_eq_false, not_false_eq_true, false_implies, and_true, true_and, implies_true, and_self]
      exact hpost
    · have b := hne s (by omega)
      simp (disch := omega) only [wY_send_37, e, hST, b, forall_eq, Nat.le_refl, rl_10, rl_n10, nI_leI, nI_ltI, nI_eq, vp_in_nI, nI_clamp, nI_1, nI_add, rl_lt0, rl_0le, rl_eq0, rl_eq1, rl_eq2, rl_m1, rl_m8, rl_m100, rl_vb0, rl_vb1, true_implies, forall_const, not_true_eq_false, not_false_eq_true, false_implies, and_true, true_and, implies_true, and_self]
      exact ih (s + 1) (by omega) (by omega)
theorem ry_sendF_l {post : Int32 → SY → Prop} {x1 x2 : Int32} (m16 : m ≤ 16) (hST : ∀ s, ST s = nI (st s)) (h2 : ∀ s, st s ≤ 2) (hne : ∀ j, j < m → ¬ st j = 0) (hpost : post (-3) (nI n, nI c, nI m, vY, IV, U, TB, TS, ST, SD, RC, PL, SI, RI, CP, KP, SL)) :
    ∀ (fu s : Nat), m < fu + s → s ≤ m → wY_send_37 post x1 x2 (nI n) (nI c) (nI m) vY IV U TB TS ST SD RC PL SI RI CP KP SL fu (nI s) := by
  intro fu
  induction fu with
  | zero => intro s q1 q2; omega
  | succ fu ih =>
    intro s q1 q2
    have h2s := h2 s
    by_cases e : m ≤ s
    · simp (disch := omega) only [wY_send_37, e, forall_eq, Nat.le_refl, rl_10, rl_n10, nI_leI, nI_ltI, nI_eq, vp_in_nI, nI_clamp, nI_1, nI_add, rl_lt0, rl_0le, rl_eq0, rl_eq1, rl_eq2, rl_m1, rl_m8, rl_m100, rl_vb0, rl_vb1, true_implies, forall_const, not_true_eq_false, not_false_eq_true, false_implies, and_true, true_and, implies_true, and_self]
      exact hpost
    · have b := hne s (by omega)
      simp (disch := omega) only [wY_send_37, e, hST, b, forall_eq, Nat.le_refl, rl_10, rl_n10, nI_leI, nI_ltI, nI_eq, vp_in_nI, nI_clamp, nI_1, nI_add, rl_lt0, rl_0le, rl_eq0, rl_eq1, rl_eq2, rl_m1, rl_m8, rl_m100, rl_vb0, rl_vb1, true_implies, forall_const, not_true_eq_false, not_false_eq_true, false_implies, and_true, true_and, implies_true, and_self]
      exact ih (s + 1) (by omega) (by omega)
theorem ry_chk_l (hB : rl_AY n c m iv ct g st sd rc si ri IV TB ST SD RC SI RI) {post : Int32 → SY → Prop} {p : Nat} (hp : p < n) (h99 : iv p < 99)
    (h1 : ct p < c → post (nI (iv p + 1)) (nI n, nI c, nI m, vY, upd IV p (nI (iv p + 1)), U, upd TB (p * 100 + (iv p + 1)) 1, upd TS (p * 100 + (iv p + 1)) (vY p), ST, SD, RC, PL, SI, RI, CP, KP, SL)) (h0 : ¬ ct p < c → post (-3) (nI n, nI c, nI m, vY, IV, U, TB, TS, ST, SD, RC, PL, SI, RI, CP, KP, SL)) :
    ∀ (fu i : Nat), 100 < fu + i → i ≤ 100 → wY_checkpoint_40 post (nI p) (nI n) (nI c) (nI m) vY IV U TB TS ST SD RC PL SI RI CP KP SL fu (nI (rl_cn (fun i => decide (¬ TB (p * 100 + i) = 0)) i)) (nI i) := by
  have hB' := hB
  obtain ⟨hW, hIV, hT, hST, hSD, hRC, hSI, hRI⟩ := hB'
  have hW' := hW
  obtain ⟨⟨⟨n2, n4⟩, ⟨c3, c8⟩, ⟨m4, m16⟩⟩, hS, hM, _⟩ := hW'
  obtain ⟨s1, s2, s3, s4, s5⟩ := hS p hp
  have hcn := rl_cntS hS hp (hT p hp)
  intro fu
  induction fu with
  | zero => intro i q1 q2; omega
  | succ fu ih =>
    intro i q1 q2
    by_cases e : 99 < i
    · have e2 : i = 100 := by omega
      rw [e2, hcn]
      rw [e2] at e
      by_cases a : ct p < c
      · simp (disch := omega) only [wY_checkpoint_40, rl_99g, e, a, hIV, pk_us, forall_eq, Nat.le_refl, rl_10, rl_n10, nI_leI, nI_ltI, nI_eq, vp_in_nI, nI_clamp, nI_1, nI_add, rl_lt0, rl_0le, rl_eq0, rl_eq1, rl_eq2, rl_m1, rl_m8, rl_m100, rl_vb0, rl_vb1, true_implies, forall_const, not_true_eq_false, not_false_eq_true, false_implies, and_true, true_and, implies_true, and_self]
        exact h1 a
      · simp (disch := omega) only [wY_checkpoint_40, rl_99g, e, a, forall_eq, Nat.le_refl, rl_10, rl_n10, nI_leI, nI_ltI, nI_eq, vp_in_nI, nI_clamp, nI_1, nI_add, rl_lt0, rl_0le, rl_eq0, rl_eq1, rl_eq2, rl_m1, rl_m8, rl_m100, rl_vb0, rl_vb1, true_implies, forall_const, not_true_eq_false, not_false_eq_true, false_implies, and_true, true_and, implies_true, and_self]
        exact h0 a
    · have := ih (i + 1) (by omega) (by omega)
      have hle := rl_cn_le (fun i => decide (¬ TB (p * 100 + i) = 0)) i
      by_cases a : TB (p * 100 + i) = 0
      · rw [rl_cn_f (fun z => (of_decide_eq_true z) a)] at this
        simp (disch := omega) only [wY_checkpoint_40, rl_99g, e, a, forall_eq, Nat.le_refl, rl_10, rl_n10, nI_leI, nI_ltI, nI_eq, vp_in_nI, nI_clamp, nI_1, nI_add, rl_lt0, rl_0le, rl_eq0, rl_eq1, rl_eq2, rl_m1, rl_m8, rl_m100, rl_vb0, rl_vb1, true_implies, forall_const, not_true_eq_false, not_false_eq_true, false_implies, and_true, true_and, implies_true, and_self]
        exact this
      · rw [rl_cn_t (decide_eq_true a)] at this
        simp (disch := omega) only [wY_checkpoint_40, rl_99g, e, a, forall_eq, Nat.le_refl, rl_10, rl_n10, nI_leI, nI_ltI, nI_eq, vp_in_nI, nI_clamp, nI_1, nI_add, rl_lt0, rl_0le, rl_eq0, rl_eq1, rl_eq2, rl_m1, rl_m8, rl_m100, rl_vb0, rl_vb1, true_implies, forall_const, not_true_eq_false, not_false_eq_true, false_implies, and_true, true_and, implies_true, and_self]
        exact this
theorem ry_cnum_l (hB : rl_AY n c m iv ct g st sd rc si ri IV TB ST SD RC SI RI) {post : Int32 → Prop} {p : Nat} (hp : p < n) {x : Int32} (h1 : ∀ j, j < ct p → x = nI j → post (nI (g p j))) (h0 : (∀ j, j < ct p → ¬ x = nI j) → post (-4)) :
    ∀ (fu i : Nat), 100 < fu + i → i ≤ 100 → (∀ j, j < ct p → g p j < i → ¬ x = nI j) → wY_checkpointNumber_15 post (nI p) x (nI n) (nI c) (nI m) vY IV U TB TS ST SD RC PL SI RI CP KP SL fu (nI (rl_cn (fun i => decide (¬ TB (p * 100 + i) = 0)) i)) (nI i) := by
  have hB' := hB
  obtain ⟨hW, hIV, hT, hST, hSD, hRC, hSI, hRI⟩ := hB'
  have hW' := hW
  obtain ⟨⟨⟨n2, n4⟩, ⟨c3, c8⟩, ⟨m4, m16⟩⟩, hS, hM, _⟩ := hW'
  obtain ⟨s1, s2, s3, s4, s5⟩ := hS p hp
  intro fu
  induction fu with
  | zero => intro i q1 q2; omega
  | succ fu ih =>
    intro i q1 q2 q3
    by_cases e : 99 < i
    · simp (disch := omega) only [wY_checkpointNumber_15, rl_99g, e, forall_eq, Nat.le_refl, rl_10, rl_n10, nI_leI, nI_ltI, nI_eq, vp_in_nI, nI_clamp, nI_1, nI_add, rl_lt0, rl_0le, rl_eq0, rl_eq1, rl_eq2, rl_m1, rl_m8, rl_m100, rl_vb0, rl_vb1, true_implies, forall_const, not_true_eq_false, not_false_eq_true, false_implies, and_true, true_and, implies_true, and_self]
      exact h0 (fun j hj => q3 j hj (by have := s4 j hj; omega))
    · by_cases a : TB (p * 100 + i) = 0
      · have := ih (i + 1) (by omega) (by omega) (fun j hj hg => ?_)
        · rw [rl_cn_f (fun z => (of_decide_eq_true z) a)] at this
          simp (disch := omega) only [wY_checkpointNumber_15, rl_99g, e, a, forall_eq, Nat.le_refl, rl_10, rl_n10, nI_leI, nI_ltI, nI_eq, vp_in_nI, nI_clamp, nI_1, nI_add, rl_lt0, rl_0le, rl_eq0, rl_eq1, rl_eq2, rl_m1, rl_m8, rl_m100, rl_vb0, rl_vb1, true_implies, forall_const, not_true_eq_false, not_false_eq_true, false_implies, and_true, true_and, implies_true, and_self]
          exact this
        · by_cases q : g p j = i
          · exact absurd a ((hT p hp i (by omega)).mpr ⟨j, hj, q⟩)
          · exact q3 j hj (by omega)
      · obtain ⟨j, hj, ej⟩ := (hT p hp i (by omega)).mp a
        have hcn := rl_cntB hS hp hj (hT p hp)
        rw [ej] at hcn
        by_cases b : nI j = x
        · rw [hcn]
          simp (disch := omega) only [wY_checkpointNumber_15, rl_99g, e, a, b, forall_eq, Nat.le_refl, rl_10, rl_n10, nI_leI, nI_ltI, nI_eq, vp_in_nI, nI_clamp, nI_1, nI_add, rl_lt0, rl_0le, rl_eq0, rl_eq1, rl_eq2, rl_m1, rl_m8, rl_m100, rl_vb0, rl_vb1, true_implies, forall_const, not_true_eq_false, not_false_eq_true, false_implies, and_true, true_and, implies_true, and_self]
          rw [← ej]
          exact h1 j hj b.symm
        · have := ih (i + 1) (by omega) (by omega) (fun j2 hj2 hg => ?_)
          · rw [rl_cn_t (decide_eq_true a), hcn] at this
            rw [hcn]
            simp (disch := omega) only [wY_checkpointNumber_15, rl_99g, e, a, b, forall_eq, Nat.le_refl, rl_10, rl_n10, nI_leI, nI_ltI, nI_eq, vp_in_nI, nI_clamp, nI_1, nI_add, rl_lt0, rl_0le, rl_eq0, rl_eq1, rl_eq2, rl_m1, rl_m8, rl_m100, rl_vb0, rl_vb1, true_implies, forall_const, not_true_eq_false, not_false_eq_true, false_implies, and_true, true_and, implies_true, and_self]
            exact this
          · by_cases q : g p j2 = i
            · have e3 : j2 = j := by
                rcases Nat.lt_trichotomy j2 j with z | z | z
                · have := s3 _ _ z hj; omega
                · exact z
                · have := s3 _ _ z hj2; omega
              rw [e3]
              exact fun z => b z.symm
            · exact q3 j2 hj2 (by omega)
end
end
section
def i_Rel (_ : Nat) (u : SX) (v : SY) : Prop :=
  ∃ (n c m : Nat) (iv ct st sd rc si ri : Nat → Nat) (g : Nat → Nat → Nat) (vX vY IV U CT NB SV TB TS ST SD RC PL SI RI LN ND SE CP KP SL : Nat → Int32),
    u = (nI n, nI c, nI m, vX, IV, U, CT, NB, SV, ST, SD, RC, PL, SI, RI, LN, ND, SE) ∧ v = (nI n, nI c, nI m, vY, IV, U, TB, TS, ST, SD, RC, PL, SI, RI, CP, KP, SL) ∧ rl_R n c m iv ct g st sd rc si ri vX vY IV U CT NB SV TB TS ST SD RC SI RI
theorem i_up {k : Nat} {u : SX} {v : SY} (h : i_Rel k u v) : i_Rel (k + 3) u v := h
theorem rl_mk {k n c m : Nat} {iv ct st sd rc si ri : Nat → Nat} {g : Nat → Nat → Nat} {vX vY IV U CT NB SV TB TS ST SD RC PL SI RI LN ND SE CP KP SL : Nat → Int32}
    (h : rl_R n c m iv ct g st sd rc si ri vX vY IV U CT NB SV TB TS ST SD RC SI RI) : i_Rel k (nI n, nI c, nI m, vX, IV, U, CT, NB, SV, ST, SD, RC, PL, SI, RI, LN, ND, SE) (nI n, nI c, nI m, vY, IV, U, TB, TS, ST, SD, RC, PL, SI, RI, CP, KP, SL) :=
  ⟨n, c, m, iv, ct, st, sd, rc, si, ri, g, vX, vY, IV, U, CT, NB, SV, TB, TS, ST, SD, RC, PL, SI, RI, LN, ND, SE, CP, KP, SL, rfl, rfl, h⟩
theorem rl_B_of {n c m : Nat} {iv ct st sd rc si ri : Nat → Nat} {g : Nat → Nat → Nat} {vX vY IV U CT NB SV TB TS ST SD RC SI RI : Nat → Int32} (h : rl_R n c m iv ct g st sd rc si ri vX vY IV U CT NB SV TB TS ST SD RC SI RI) : rl_AY n c m iv ct g st sd rc si ri IV TB ST SD RC SI RI := by
  obtain ⟨⟨hW, hIV, _, _, hST, hSD, hRC, hSI, hRI⟩, hTab, _⟩ := h
  exact ⟨hW, hIV, hTab.1, hST, hSD, hRC, hSI, hRI⟩
def rl_cp (x lo hi : Int32) : Int32 := if lo ≤ x then (if x ≤ hi then x else hi) else lo
theorem rl_cp_n (x : Int32) (lo hi : Nat) (h : lo ≤ hi) (hh : hi < 2 ^ 31) : ∃ N, lo ≤ N ∧ N ≤ hi ∧ rl_cp x (nI lo) (nI hi) = nI N := by
  unfold rl_cp
  by_cases a : nI lo ≤ x
  · rw [if_pos a]
    by_cases b : x ≤ nI hi
    · rw [if_pos b]
      have h0 : ¬ x < 0 := Int32.not_lt.mpr (Int32.le_trans (nI_pos' (by omega)) a)
      obtain ⟨j, hj, rfl⟩ := nI_of h0
      exact ⟨j, (nI_leI (by omega) hj).mp a, (nI_leI hj hh).mp b, rfl⟩
    · rw [if_neg b]; exact ⟨hi, h, Nat.le_refl _, rfl⟩
  · rw [if_neg a]; exact ⟨lo, Nat.le_refl _, h, rfl⟩
theorem rl_br {P : Int32 → Prop} {x lo hi : Int32} (h : P (rl_cp x lo hi)) : (lo ≤ x → ((x ≤ hi → P x) ∧ (¬ x ≤ hi → P hi))) ∧ (¬ lo ≤ x → P lo) := by
  unfold rl_cp at h
  constructor
  · intro a
    rw [if_pos a] at h
    constructor
    · intro b; rw [if_pos b] at h; exact h
    · intro b; rw [if_neg b] at h; exact h
  · intro a; rw [if_neg a] at h; exact h
theorem rl_updZ (k : Nat) : upd (fun _ => 0) k 0 = fun _ => 0 := by
  funext q
  unfold upd
  split <;> rfl
theorem rx_init_l {n c m : Nat} (n4 : n ≤ 4) {post : SX → Prop}
    (hpost : ∀ SV, (∀ q, q < n → SV (q * 8) = nI (q + 1)) → post (nI n, nI c, nI m, rl_mix n (fun p => nI (p + 1)) (fun _ => 0), fun _ => 0, rl_mix n (fun _ => 1) (fun _ => 0), rl_mix n (fun _ => 1) (fun _ => 0), fun _ => 0, SV, fun _ => 0, fun _ => 0, fun _ => 0, fun _ => 0, fun _ => 0, fun _ => 0, fun _ => 0, fun _ => 0, fun _ => 0)) :
    ∀ (fu i : Nat) (SV : Nat → Int32), n < fu + i → i ≤ n → (∀ q, q < i → SV (q * 8) = nI (q + 1)) →
      wX_init_154 post fu (nI i) (nI n) (nI c) (nI m) (rl_mix i (fun p => nI (p + 1)) (fun _ => 0)) (fun _ => 0) (rl_mix i (fun _ => 1) (fun _ => 0)) (rl_mix i (fun _ => 1) (fun _ => 0)) (fun _ => 0) SV (fun _ => 0) (fun _ => 0) (fun _ => 0) (fun _ => 0) (fun _ => 0) (fun _ => 0) (fun _ => 0) (fun _ => 0) (fun _ => 0) := by
  intro fu
  induction fu with
  | zero => intro i SV q1 q2; omega
  | succ fu ih =>
    intro i SV q1 q2 q3
    by_cases e : n ≤ i
    · have e2 : i = n := by omega
      simp (disch := omega) only [wX_init_154, e, forall_eq, Nat.le_refl, rl_10, rl_n10, nI_leI, nI_ltI, nI_eq, vp_in_nI, nI_clamp, nI_1, nI_add, rl_lt0, rl_0le, rl_eq0, rl_eq1, rl_eq2, rl_m1, rl_m8, rl_m100, rl_vb0, rl_vb1, true_implies, forall_const, not_true_eq_false, not_false_eq_true, false_implies, and_true, true_and, implies_true, and_self]
      rw [e2] at q3 ⊢
      exact hpost SV q3
    · have hct : rl_mix i (fun _ => (1 : Int32)) (fun _ => 0) i = 0 := rl_mix_ge (Nat.le_refl _)
      have := ih (i + 1) (upd SV (i * 8) (nI (i + 1))) (by omega) (by omega) (fun q hq => ?_)
      · rw [← rl_mix_s (i := i) (a := fun p => nI (p + 1)) rfl, ← rl_mix_s (i := i) (a := fun _ => (1 : Int32)) (x := 1) rfl] at this
        simp (disch := omega) only [wX_init_154, wpX_store, wpX_firstCell, e, hct, Int32.add_zero, Int32.zero_add, pk_us, rl_updZ, forall_eq, Nat.le_refl, rl_10, rl_n10, nI_leI, nI_ltI, nI_eq, vp_in_nI, nI_clamp, nI_1, nI_add, rl_lt0, rl_0le, rl_eq0, rl_eq1, rl_eq2, rl_m1, rl_m8, rl_m100, rl_vb0, rl_vb1, true_implies, forall_const, not_true_eq_false, not_false_eq_true, false_implies, and_true, true_and, implies_true, and_self]
        exact this
      · by_cases qe : q = i
        · rw [qe, pk_us]
        · rw [pk_un (by omega)]; exact q3 q (by omega)
theorem ry_init_l {n c m : Nat} (n4 : n ≤ 4) {post : SY → Prop}
    (hpost : ∀ TB TS, (∀ j, TB j = if j % 100 = 0 ∧ j / 100 < n then 1 else 0) → (∀ q, q < n → TS (q * 100) = nI (q + 1)) → post (nI n, nI c, nI m, rl_mix n (fun p => nI (p + 1)) (fun _ => 0), fun _ => 0, rl_mix n (fun _ => 1) (fun _ => 0), TB, TS, fun _ => 0, fun _ => 0, fun _ => 0, fun _ => 0, fun _ => 0, fun _ => 0, fun _ => 0, fun _ => 0, fun _ => 0)) :
    ∀ (fu i : Nat) (TB TS : Nat → Int32), n < fu + i → i ≤ n → (∀ j, TB j = if j % 100 = 0 ∧ j / 100 < i then 1 else 0) → (∀ q, q < i → TS (q * 100) = nI (q + 1)) →
      wY_init_191 post (nI n) (nI c) (nI m) fu (nI i) (rl_mix i (fun p => nI (p + 1)) (fun _ => 0)) (fun _ => 0) (rl_mix i (fun _ => 1) (fun _ => 0)) TB TS (fun _ => 0) (fun _ => 0) (fun _ => 0) (fun _ => 0) (fun _ => 0) (fun _ => 0) (fun _ => 0) (fun _ => 0) (fun _ => 0) := by
  intro fu
  induction fu with
  | zero => intro i TB TS q1 q2; omega
  | succ fu ih =>
    intro i TB TS q1 q2 q3 q4
    by_cases e : n ≤ i
    · have e2 : i = n := by omega
      simp (disch := omega) only [wY_init_191, e, forall_eq, Nat.le_refl, rl_10, rl_n10, nI_leI, nI_ltI, nI_eq, vp_in_nI, nI_clamp, nI_1, nI_add, rl_lt0, rl_0le, rl_eq0, rl_eq1, rl_eq2, rl_m1, rl_m8, rl_m100, rl_vb0, rl_vb1, true_implies, forall_const, not_true_eq_false, not_false_eq_true, false_implies, and_true, true_and, implies_true, and_self]
      rw [e2] at q3 q4 ⊢
      exact hpost TB TS q3 q4
    · have := ih (i + 1) (upd TB (i * 100) 1) (upd TS (i * 100) (nI (i + 1))) (by omega) (by omega) (fun j => ?_) (fun q hq => ?_)
      · rw [← rl_mix_s (i := i) (a := fun p => nI (p + 1)) rfl, ← rl_mix_s (i := i) (a := fun _ => (1 : Int32)) (x := 1) rfl] at this
        simp (disch := omega) only [wY_init_191, e, forall_eq, Nat.le_refl, rl_10, rl_n10, nI_leI, nI_ltI, nI_eq, vp_in_nI, nI_clamp, nI_1, nI_add, rl_lt0, rl_0le, rl_eq0, rl_eq1, rl_eq2, rl_m1, rl_m8, rl_m100, rl_vb0, rl_vb1, true_implies, forall_const, not_true_eq_false, not_false_eq_true, false_implies, and_true, true_and, implies_true, and_self]
        exact this
      · by_cases qe : j = i * 100
        · rw [qe, pk_us, if_pos (by omega)]
        · rw [pk_un qe, q3 j]
          by_cases l : j % 100 = 0 ∧ j / 100 < i
          · rw [if_pos l, if_pos (by omega)]
          · rw [if_neg l, if_neg (by omega)]
      · by_cases qe : q = i
        · rw [qe, pk_us]
        · rw [pk_un (by omega)]; exact q4 q (by omega)
theorem ry_init {post : SY → Prop} {p0 p1 p2 : Int32} (h : ∃ f, wY_init_191 post (rl_cp p0 2 4) (rl_cp p1 3 8) (rl_cp p2 4 16) f 0 (fun _ => 0) (fun _ => 0) (fun _ => 0) (fun _ => 0) (fun _ => 0) (fun _ => 0) (fun _ => 0) (fun _ => 0) (fun _ => 0) (fun _ => 0) (fun _ => 0) (fun _ => 0) (fun _ => 0) (fun _ => 0)) : wpY_init post p0 p1 p2 := by
  refine rl_br (P := fun z => wY_init_135 post p1 p2 z 0 0 0 (fun _ => 0) (fun _ => 0) (fun _ => 0) (fun _ => 0) (fun _ => 0) (fun _ => 0) (fun _ => 0) (fun _ => 0) (fun _ => 0) (fun _ => 0) (fun _ => 0) (fun _ => 0) (fun _ => 0) (fun _ => 0)) ?_
  refine rl_br (P := fun z => wY_init_160 post p2 z (rl_cp p0 2 4) 0 0 (fun _ => 0) (fun _ => 0) (fun _ => 0) (fun _ => 0) (fun _ => 0) (fun _ => 0) (fun _ => 0) (fun _ => 0) (fun _ => 0) (fun _ => 0) (fun _ => 0) (fun _ => 0) (fun _ => 0) (fun _ => 0)) ?_
  exact rl_br (P := fun z => ∃ f, wY_init_191 post (rl_cp p0 2 4) (rl_cp p1 3 8) z f 0 (fun _ => 0) (fun _ => 0) (fun _ => 0) (fun _ => 0) (fun _ => 0) (fun _ => 0) (fun _ => 0) (fun _ => 0) (fun _ => 0) (fun _ => 0) (fun _ => 0) (fun _ => 0) (fun _ => 0) (fun _ => 0)) h
theorem rl_W_0 {n c m : Nat} (hn : 2 ≤ n ∧ n ≤ 4) (hc : 3 ≤ c ∧ c ≤ 8) (hm : 4 ≤ m ∧ m ≤ 16) : rl_W n c m (fun _ => 0) (fun p => if p < n then 1 else 0) (fun _ _ => 0) (fun _ => 0) (fun _ => 0) (fun _ => 0) (fun _ => 0) (fun _ => 0) := by
  refine ⟨⟨hn, hc, hm⟩, fun p hp => ?_, ⟨fun s => ⟨Nat.zero_le _, by show 0 < n; omega, by show 0 < n; omega, Nat.zero_le _, Nat.zero_le _⟩, fun s _ _ => Nat.le_refl _⟩, fun _ => 0, fun p hp => ?_, fun s _ h => absurd h (by show ¬ 0 = 2; omega)⟩
  · show 1 ≤ (if p < n then 1 else 0) ∧ (if p < n then 1 else 0) ≤ c ∧ (∀ j k, j < k → k < (if p < n then 1 else 0) → 0 < 0) ∧ (∀ k, k < (if p < n then 1 else 0) → 0 ≤ 0) ∧ 0 ≤ 99
    rw [if_pos hp]
    exact ⟨by omega, by omega, fun j k h1 h2 => by omega, fun k _ => by omega, by omega⟩
  · show 0 < (if p < n then 1 else 0)
    rw [if_pos hp]; omega
theorem i_vc0 (k0 : Int32) (k1 : Int32) (k2 : Int32) : wpX_init (fun u => wpY_init (fun v => i_Rel 3 u v) k0 k1 k2) k0 k1 k2 := by
  obtain ⟨n, n2, n4, hn⟩ : ∃ N, 2 ≤ N ∧ N ≤ 4 ∧ rl_cp k0 2 4 = nI N := rl_cp_n k0 2 4 (by omega) (by omega)
  obtain ⟨c, c3, c8, hc⟩ : ∃ N, 3 ≤ N ∧ N ≤ 8 ∧ rl_cp k1 3 8 = nI N := rl_cp_n k1 3 8 (by omega) (by omega)
  obtain ⟨m, m4, m16, hm⟩ : ∃ N, 4 ≤ N ∧ N ≤ 16 ∧ rl_cp k2 4 16 = nI N := rl_cp_n k2 4 16 (by omega) (by omega)
  unfold wpX_init
  refine rl_br (P := fun r_1 => wpX_clamp (fun r_2 => wpX_clamp (fun r_3 => ∃ n154 : Nat, wX_init_154 (fun u => wpY_init (fun v => i_Rel 3 u v) k0 k1 k2) n154 0 r_1 r_2 r_3 (fun _ => 0) (fun _ => 0) (fun _ => 0) (fun _ => 0) (fun _ => 0) (fun _ => 0) (fun _ => 0) (fun _ => 0) (fun _ => 0) (fun _ => 0) (fun _ => 0) (fun _ => 0) (fun _ => 0) (fun _ => 0) (fun _ => 0)) k2 4 16) k1 3 8) ?_
  refine rl_br (P := fun r_2 => wpX_clamp (fun r_3 => ∃ n154 : Nat, wX_init_154 (fun u => wpY_init (fun v => i_Rel 3 u v) k0 k1 k2) n154 0 (rl_cp k0 2 4) r_2 r_3 (fun _ => 0) (fun _ => 0) (fun _ => 0) (fun _ => 0) (fun _ => 0) (fun _ => 0) (fun _ => 0) (fun _ => 0) (fun _ => 0) (fun _ => 0) (fun _ => 0) (fun _ => 0) (fun _ => 0) (fun _ => 0) (fun _ => 0)) k2 4 16) ?_
  refine rl_br (P := fun r_3 => ∃ n154 : Nat, wX_init_154 (fun u => wpY_init (fun v => i_Rel 3 u v) k0 k1 k2) n154 0 (rl_cp k0 2 4) (rl_cp k1 3 8) r_3 (fun _ => 0) (fun _ => 0) (fun _ => 0) (fun _ => 0) (fun _ => 0) (fun _ => 0) (fun _ => 0) (fun _ => 0) (fun _ => 0) (fun _ => 0) (fun _ => 0) (fun _ => 0) (fun _ => 0) (fun _ => 0) (fun _ => 0)) ?_
  try dsimp only
  rw [hn, hc, hm]
  have := rx_init_l (c := c) (m := m) n4 (post := fun u => wpY_init (fun v => i_Rel 3 u v) k0 k1 k2) (fun SV hSV => ?_) (n + 1) 0 (fun _ => 0) (by omega) (by omega) (fun q hq => absurd hq (by omega))
  · rw [rl_mix_0, rl_mix_0] at this
    exact ⟨_, this⟩
  · refine ry_init ?_
    rw [hn, hc, hm]
    have := ry_init_l (c := c) (m := m) n4 (post := fun v => i_Rel 3 (nI n, nI c, nI m, rl_mix n (fun p => nI (p + 1)) (fun _ => 0), fun _ => 0, rl_mix n (fun _ => 1) (fun _ => 0), rl_mix n (fun _ => 1) (fun _ => 0), fun _ => 0, SV, fun _ => 0, fun _ => 0, fun _ => 0, fun _ => 0, fun _ => 0, fun _ => 0, fun _ => 0, fun _ => 0, fun _ => 0) v) (fun TB TS hTB hTS => ?_) (n + 1) 0 (fun _ => 0) (fun _ => 0) (by omega) (by omega) (fun j => ?_) (fun q hq => absurd hq (by omega))
    · rw [rl_mix_0, rl_mix_0] at this
      exact ⟨_, this⟩
    · refine rl_mk (iv := fun _ => 0) (ct := fun p => if p < n then 1 else 0) (g := fun _ _ => 0) (st := fun _ => 0) (sd := fun _ => 0) (rc := fun _ => 0) (si := fun _ => 0) (ri := fun _ => 0) ?_
      refine ⟨⟨rl_W_0 ⟨n2, n4⟩ ⟨c3, c8⟩ ⟨m4, m16⟩, fun p => rfl, fun p => ?_, fun p _ k _ => rfl, fun s => rfl, fun s => rfl, fun s => rfl, fun s => rfl, fun s => rfl⟩, ⟨fun p hp i hi => ?_, fun i hi => ?_, fun p hp k hk => ?_⟩, fun p => ?_, fun p _ _ => rfl⟩
      · show _ = nI (if p < n then 1 else 0)
        by_cases h : p < n
        · rw [rl_mix_lt h, if_pos h]; rfl
        · rw [rl_mix_ge (by omega), if_neg h]; rfl
      · show ¬ TB (p * 100 + i) = 0 ↔ ∃ k, k < (if p < n then 1 else 0) ∧ 0 = i
        rw [hTB, if_pos hp]
        by_cases h : i = 0
        · rw [if_pos (by omega)]
          exact ⟨fun _ => ⟨0, by omega, h.symm⟩, fun _ => by decide⟩
        · rw [if_neg (by omega)]
          exact ⟨fun z => absurd rfl z, fun ⟨k, _, ek⟩ => absurd ek.symm h⟩
      · rw [hTB, if_neg (by omega)]
      · show SV (p * 8 + k) = TS (p * 100 + 0)
        have hk' : k < (if p < n then 1 else 0) := hk
        rw [if_pos hp] at hk'
        have hk0 : k = 0 := by omega
        rw [hk0]
        exact (hSV p hp).trans (hTS p hp).symm
      · by_cases h : p < n
        · rw [rl_mix_lt h]; exact Or.inr rfl
        · rw [rl_mix_ge (by omega)]; exact Or.inl rfl
    · rw [if_neg (by omega)]
end
section
theorem i_vc_step {k : Nat} {u : SX} {v : SY} (I : i_Rel k u v) (hk : k + 3 ≤ 1539) (v1 : Int32) (v2 : Int32) : wpX_step (fun r u' => wpY_step (fun r' v' => r' = r ∧ i_Rel (k + 3) u' v') v v1 v2) u v1 v2 := by
  obtain ⟨n, c, m, iv, ct, st, sd, rc, si, ri, g, vX, vY, IV, U, CT, NB, SV, TB, TS, ST, SD, RC, PL, SI, RI, LN, ND, SE, CP, KP, SL, rfl, rfl, hR⟩ := I
  have hR' := hR
  obtain ⟨hA, hTab, hU, hV⟩ := hR'
  have hA' := hA
  obtain ⟨hW, hIV, hCT, hNB, hST, hSD, hRC, hSI, hRI⟩ := hA'
  have hW' := hW
  obtain ⟨⟨⟨n2, n4⟩, ⟨c3, c8⟩, ⟨m4, m16⟩⟩, hS, hM, _⟩ := hW'
  have h10 : ¬ (1 : Int32) = 0 := by decide
  rcases pk_ix v1 (show n < 2 ^ 31 by omega) with h | h | ⟨p, hp, rfl⟩
  · simp only [wpX_step]
    refine rx_badN h ?_
    refine br_f h10 ?_
    simp only [wpY_step]
    refine ry_badN h ?_
    exact br_f h10 ⟨by trivial, rl_mk hR⟩
  · simp only [wpX_step]
    refine rx_badG h ?_
    refine br_f h10 ?_
    simp only [wpY_step]
    refine ry_badG h ?_
    exact br_f h10 ⟨by trivial, rl_mk hR⟩
  · by_cases a : U p = 0
    · simp only [wpX_step]
      refine rx_bad hp n4 ?_
      simp (disch := omega) only [a, wpY_step, forall_eq, Nat.le_refl, rl_10, rl_n10, nI_leI, nI_ltI, nI_eq, vp_in_nI, nI_clamp, nI_1, nI_add, rl_lt0, rl_0le, rl_eq0, rl_eq1, rl_eq2, rl_m1, rl_m8, rl_m100, rl_vb0, rl_vb1, true_implies, forall_const, not_true_eq_false, not_false_eq_true, false_implies, and_true, true_and, implies_true, and_self]
      refine ry_bad hp n4 ?_
      simp (disch := omega) only [a, forall_eq, Nat.le_refl, rl_10, rl_n10, nI_leI, nI_ltI, nI_eq, vp_in_nI, nI_clamp, nI_1, nI_add, rl_lt0, rl_0le, rl_eq0, rl_eq1, rl_eq2, rl_m1, rl_m8, rl_m100, rl_vb0, rl_vb1, true_implies, forall_const, not_true_eq_false, not_false_eq_true, false_implies, and_true, true_and, implies_true, and_self]
      exact rl_mk hR
    · simp only [wpX_step]
      refine rx_bad hp n4 ?_
      simp (disch := omega) only [a, wpX_mixIn, wpY_step, forall_eq, Nat.le_refl, rl_10, rl_n10, nI_leI, nI_ltI, nI_eq, vp_in_nI, nI_clamp, nI_1, nI_add, rl_lt0, rl_0le, rl_eq0, rl_eq1, rl_eq2, rl_m1, rl_m8, rl_m100, rl_vb0, rl_vb1, true_implies, forall_const, not_true_eq_false, not_false_eq_true, false_implies, and_true, true_and, implies_true, and_self]
      refine ry_bad hp n4 ?_
      simp (disch := omega) only [a, forall_eq, Nat.le_refl, rl_10, rl_n10, nI_leI, nI_ltI, nI_eq, vp_in_nI, nI_clamp, nI_1, nI_add, rl_lt0, rl_0le, rl_eq0, rl_eq1, rl_eq2, rl_m1, rl_m8, rl_m100, rl_vb0, rl_vb1, true_implies, forall_const, not_true_eq_false, not_false_eq_true, false_implies, and_true, true_and, implies_true, and_self]
      refine rl_mk ⟨hA, hTab, hU, fun q hq hu => ?_⟩
      by_cases e : q = p
      · rw [e, pk_us, pk_us, hV p hp a]
      · rw [pk_un e, pk_un e]; exact hV q hq hu
theorem i_vc_crash {k : Nat} {u : SX} {v : SY} (I : i_Rel k u v) (hk : k + 3 ≤ 1539) (v1 : Int32) : wpX_crash (fun r u' => wpY_crash (fun r' v' => r' = r ∧ i_Rel (k + 3) u' v') v v1) u v1 := by
  obtain ⟨n, c, m, iv, ct, st, sd, rc, si, ri, g, vX, vY, IV, U, CT, NB, SV, TB, TS, ST, SD, RC, PL, SI, RI, LN, ND, SE, CP, KP, SL, rfl, rfl, hR⟩ := I
  have hR' := hR
  obtain ⟨hA, hTab, hU, hV⟩ := hR'
  have hA' := hA
  obtain ⟨hW, hIV, hCT, hNB, hST, hSD, hRC, hSI, hRI⟩ := hA'
  have hW' := hW
  obtain ⟨⟨⟨n2, n4⟩, ⟨c3, c8⟩, ⟨m4, m16⟩⟩, hS, hM, _⟩ := hW'
  have h10 : ¬ (1 : Int32) = 0 := by decide
  rcases pk_ix v1 (show n < 2 ^ 31 by omega) with h | h | ⟨p, hp, rfl⟩
  · simp only [wpX_crash]
    refine rx_badN h ?_
    refine br_f h10 ?_
    simp only [wpY_crash]
    refine ry_badN h ?_
    exact br_f h10 ⟨by trivial, rl_mk hR⟩
  · simp only [wpX_crash]
    refine rx_badG h ?_
    refine br_f h10 ?_
    simp only [wpY_crash]
    refine ry_badG h ?_
    exact br_f h10 ⟨by trivial, rl_mk hR⟩
  · by_cases a : U p = 0
    · simp only [wpX_crash]
      refine rx_bad hp n4 ?_
      simp (disch := omega) only [a, wpY_crash, forall_eq, Nat.le_refl, rl_10, rl_n10, nI_leI, nI_ltI, nI_eq, vp_in_nI, nI_clamp, nI_1, nI_add, rl_lt0, rl_0le, rl_eq0, rl_eq1, rl_eq2, rl_m1, rl_m8, rl_m100, rl_vb0, rl_vb1, true_implies, forall_const, not_true_eq_false, not_false_eq_true, false_implies, and_true, true_and, implies_true, and_self]
      refine ry_bad hp n4 ?_
      simp (disch := omega) only [a, forall_eq, Nat.le_refl, rl_10, rl_n10, nI_leI, nI_ltI, nI_eq, vp_in_nI, nI_clamp, nI_1, nI_add, rl_lt0, rl_0le, rl_eq0, rl_eq1, rl_eq2, rl_m1, rl_m8, rl_m100, rl_vb0, rl_vb1, true_implies, forall_const, not_true_eq_false, not_false_eq_true, false_implies, and_true, true_and, implies_true, and_self]
      exact rl_mk hR
    · simp only [wpX_crash]
      refine rx_bad hp n4 ?_
      simp (disch := omega) only [a, wpY_crash, forall_eq, Nat.le_refl, rl_10, rl_n10, nI_leI, nI_ltI, nI_eq, vp_in_nI, nI_clamp, nI_1, nI_add, rl_lt0, rl_0le, rl_eq0, rl_eq1, rl_eq2, rl_m1, rl_m8, rl_m100, rl_vb0, rl_vb1, true_implies, forall_const, not_true_eq_false, not_false_eq_true, false_implies, and_true, true_and, implies_true, and_self]
      refine ry_bad hp n4 ?_
      simp (disch := omega) only [a, forall_eq, Nat.le_refl, rl_10, rl_n10, nI_leI, nI_ltI, nI_eq, vp_in_nI, nI_clamp, nI_1, nI_add, rl_lt0, rl_0le, rl_eq0, rl_eq1, rl_eq2, rl_m1, rl_m8, rl_m100, rl_vb0, rl_vb1, true_implies, forall_const, not_true_eq_false, not_false_eq_true, false_implies, and_true, true_and, implies_true, and_self]
      refine rl_mk ⟨hA, hTab, fun q => ?_, fun q hq hu => ?_⟩
      · by_cases e : q = p
        · rw [e, pk_us]; exact Or.inl rfl
        · rw [pk_un e]; exact hU q
      · by_cases e : q = p
        · rw [e, pk_us] at hu; exact absurd rfl hu
        · rw [pk_un e] at hu ⊢; exact hV q hq hu
theorem i_vc_value {k : Nat} {u : SX} {v : SY} (I : i_Rel k u v) (hk : k + 3 ≤ 1539) (v1 : Int32) : wpX_value (fun r => wpY_value (fun r' => r' = r ∧ i_Rel (k + 3) u v) v v1) u v1 := by
  obtain ⟨n, c, m, iv, ct, st, sd, rc, si, ri, g, vX, vY, IV, U, CT, NB, SV, TB, TS, ST, SD, RC, PL, SI, RI, LN, ND, SE, CP, KP, SL, rfl, rfl, hR⟩ := I
  have hR' := hR
  obtain ⟨hA, hTab, hU, hV⟩ := hR'
  have hA' := hA
  obtain ⟨hW, hIV, hCT, hNB, hST, hSD, hRC, hSI, hRI⟩ := hA'
  have hW' := hW
  obtain ⟨⟨⟨n2, n4⟩, ⟨c3, c8⟩, ⟨m4, m16⟩⟩, hS, hM, _⟩ := hW'
  have h10 : ¬ (1 : Int32) = 0 := by decide
  rcases pk_ix v1 (show n < 2 ^ 31 by omega) with h | h | ⟨p, hp, rfl⟩
  · simp only [wpX_value]
    refine rx_badN h ?_
    refine br_f h10 ?_
    simp only [wpY_value]
    refine ry_badN h ?_
    exact br_f h10 ⟨by trivial, rl_mk hR⟩
  · simp only [wpX_value]
    refine rx_badG h ?_
    refine br_f h10 ?_
    simp only [wpY_value]
    refine ry_badG h ?_
    exact br_f h10 ⟨by trivial, rl_mk hR⟩
  · by_cases a : U p = 0
    · simp only [wpX_value]
      refine rx_bad hp n4 ?_
      simp (disch := omega) only [a, wpY_value, forall_eq, Nat.le_refl, rl_10, rl_n10, nI_leI, nI_ltI, nI_eq, vp_in_nI, nI_clamp, nI_1, nI_add, rl_lt0, rl_0le, rl_eq0, rl_eq1, rl_eq2, rl_m1, rl_m8, rl_m100, rl_vb0, rl_vb1, true_implies, forall_const, not_true_eq_false, not_false_eq_true, false_implies, and_true, true_and, implies_true, and_self]
      refine ry_bad hp n4 ?_
      simp (disch := omega) only [a, forall_eq, Nat.le_refl, rl_10, rl_n10, nI_leI, nI_ltI, nI_eq, vp_in_nI, nI_clamp, nI_1, nI_add, rl_lt0, rl_0le, rl_eq0, rl_eq1, rl_eq2, rl_m1, rl_m8, rl_m100, rl_vb0, rl_vb1, true_implies, forall_const, not_true_eq_false, not_false_eq_true, false_implies, and_true, true_and, implies_true, and_self]
      exact rl_mk hR
    · simp only [wpX_value]
      refine rx_bad hp n4 ?_
      simp (disch := omega) only [a, wpY_value, forall_eq, Nat.le_refl, rl_10, rl_n10, nI_leI, nI_ltI, nI_eq, vp_in_nI, nI_clamp, nI_1, nI_add, rl_lt0, rl_0le, rl_eq0, rl_eq1, rl_eq2, rl_m1, rl_m8, rl_m100, rl_vb0, rl_vb1, true_implies, forall_const, not_true_eq_false, not_false_eq_true, false_implies, and_true, true_and, implies_true, and_self]
      refine ry_bad hp n4 ?_
      simp (disch := omega) only [a, forall_eq, Nat.le_refl, rl_10, rl_n10, nI_leI, nI_ltI, nI_eq, vp_in_nI, nI_clamp, nI_1, nI_add, rl_lt0, rl_0le, rl_eq0, rl_eq1, rl_eq2, rl_m1, rl_m8, rl_m100, rl_vb0, rl_vb1, true_implies, forall_const, not_true_eq_false, not_false_eq_true, false_implies, and_true, true_and, implies_true, and_self]
      exact ⟨(hV p hp a).symm, rl_mk hR⟩
theorem i_vc_interval {k : Nat} {u : SX} {v : SY} (I : i_Rel k u v) (hk : k + 3 ≤ 1539) (v1 : Int32) : wpX_interval (fun r => wpY_interval (fun r' => r' = r ∧ i_Rel (k + 3) u v) v v1) u v1 := by
  obtain ⟨n, c, m, iv, ct, st, sd, rc, si, ri, g, vX, vY, IV, U, CT, NB, SV, TB, TS, ST, SD, RC, PL, SI, RI, LN, ND, SE, CP, KP, SL, rfl, rfl, hR⟩ := I
  have hR' := hR
  obtain ⟨hA, hTab, hU, hV⟩ := hR'
  have hA' := hA
  obtain ⟨hW, hIV, hCT, hNB, hST, hSD, hRC, hSI, hRI⟩ := hA'
  have hW' := hW
  obtain ⟨⟨⟨n2, n4⟩, ⟨c3, c8⟩, ⟨m4, m16⟩⟩, hS, hM, _⟩ := hW'
  have h10 : ¬ (1 : Int32) = 0 := by decide
  rcases pk_ix v1 (show n < 2 ^ 31 by omega) with h | h | ⟨p, hp, rfl⟩
  · simp only [wpX_interval]
    refine rx_badN h ?_
    refine br_f h10 ?_
    simp only [wpY_interval]
    refine ry_badN h ?_
    exact br_f h10 ⟨by trivial, rl_mk hR⟩
  · simp only [wpX_interval]
    refine rx_badG h ?_
    refine br_f h10 ?_
    simp only [wpY_interval]
    refine ry_badG h ?_
    exact br_f h10 ⟨by trivial, rl_mk hR⟩
  · simp only [wpX_interval]
    refine rx_bad hp n4 ?_
    simp (disch := omega) only [wpY_interval, forall_eq, Nat.le_refl, rl_10, rl_n10, nI_leI, nI_ltI, nI_eq, vp_in_nI, nI_clamp, nI_1, nI_add, rl_lt0, rl_0le, rl_eq0, rl_eq1, rl_eq2, rl_m1, rl_m8, rl_m100, rl_vb0, rl_vb1, true_implies, forall_const, not_true_eq_false, not_false_eq_true, false_implies, and_true, true_and, implies_true, and_self]
    refine ry_bad hp n4 ?_
    try simp (disch := omega) only [forall_eq, Nat.le_refl, rl_10, rl_n10, nI_leI, nI_ltI, nI_eq, vp_in_nI, nI_clamp, nI_1, nI_add, rl_lt0, rl_0le, rl_eq0, rl_eq1, rl_eq2, rl_m1, rl_m8, rl_m100, rl_vb0, rl_vb1, true_implies, forall_const, not_true_eq_false, not_false_eq_true, false_implies, and_true, true_and, implies_true, and_self]
    exact rl_mk hR
theorem i_vc_isUp {k : Nat} {u : SX} {v : SY} (I : i_Rel k u v) (hk : k + 3 ≤ 1539) (v1 : Int32) : wpX_isUp (fun r => wpY_isUp (fun r' => r' = r ∧ i_Rel (k + 3) u v) v v1) u v1 := by
  obtain ⟨n, c, m, iv, ct, st, sd, rc, si, ri, g, vX, vY, IV, U, CT, NB, SV, TB, TS, ST, SD, RC, PL, SI, RI, LN, ND, SE, CP, KP, SL, rfl, rfl, hR⟩ := I
  have hR' := hR
  obtain ⟨hA, hTab, hU, hV⟩ := hR'
  have hA' := hA
  obtain ⟨hW, hIV, hCT, hNB, hST, hSD, hRC, hSI, hRI⟩ := hA'
  have hW' := hW
  obtain ⟨⟨⟨n2, n4⟩, ⟨c3, c8⟩, ⟨m4, m16⟩⟩, hS, hM, _⟩ := hW'
  have h10 : ¬ (1 : Int32) = 0 := by decide
  rcases pk_ix v1 (show n < 2 ^ 31 by omega) with h | h | ⟨p, hp, rfl⟩
  · simp only [wpX_isUp]
    refine rx_badN h ?_
    refine br_f h10 ?_
    simp only [wpY_isUp]
    refine ry_badN h ?_
    exact br_f h10 ⟨by trivial, rl_mk hR⟩
  · simp only [wpX_isUp]
    refine rx_badG h ?_
    refine br_f h10 ?_
    simp only [wpY_isUp]
    refine ry_badG h ?_
    exact br_f h10 ⟨by trivial, rl_mk hR⟩
  · by_cases a : U p = 0
    · simp only [wpX_isUp]
      refine rx_bad hp n4 ?_
      simp (disch := omega) only [a, wpY_isUp, forall_eq, Nat.le_refl, rl_10, rl_n10, nI_leI, nI_ltI, nI_eq, vp_in_nI, nI_clamp, nI_1, nI_add, rl_lt0, rl_0le, rl_eq0, rl_eq1, rl_eq2, rl_m1, rl_m8, rl_m100, rl_vb0, rl_vb1, true_implies, forall_const, not_true_eq_false, not_false_eq_true, false_implies, and_true, true_and, implies_true, and_self]
      refine ry_bad hp n4 ?_
      simp (disch := omega) only [a, forall_eq, Nat.le_refl, rl_10, rl_n10, nI_leI, nI_ltI, nI_eq, vp_in_nI, nI_clamp, nI_1, nI_add, rl_lt0, rl_0le, rl_eq0, rl_eq1, rl_eq2, rl_m1, rl_m8, rl_m100, rl_vb0, rl_vb1, true_implies, forall_const, not_true_eq_false, not_false_eq_true, false_implies, and_true, true_and, implies_true, and_self]
      exact rl_mk hR
    · simp only [wpX_isUp]
      refine rx_bad hp n4 ?_
      simp (disch := omega) only [a, wpY_isUp, forall_eq, Nat.le_refl, rl_10, rl_n10, nI_leI, nI_ltI, nI_eq, vp_in_nI, nI_clamp, nI_1, nI_add, rl_lt0, rl_0le, rl_eq0, rl_eq1, rl_eq2, rl_m1, rl_m8, rl_m100, rl_vb0, rl_vb1, true_implies, forall_const, not_true_eq_false, not_false_eq_true, false_implies, and_true, true_and, implies_true, and_self]
      refine ry_bad hp n4 ?_
      simp (disch := omega) only [a, forall_eq, Nat.le_refl, rl_10, rl_n10, nI_leI, nI_ltI, nI_eq, vp_in_nI, nI_clamp, nI_1, nI_add, rl_lt0, rl_0le, rl_eq0, rl_eq1, rl_eq2, rl_m1, rl_m8, rl_m100, rl_vb0, rl_vb1, true_implies, forall_const, not_true_eq_false, not_false_eq_true, false_implies, and_true, true_and, implies_true, and_self]
      exact rl_mk hR
theorem i_vc_lose {k : Nat} {u : SX} {v : SY} (I : i_Rel k u v) (hk : k + 3 ≤ 1539) (v1 : Int32) : wpX_lose (fun r u' => wpY_lose (fun r' v' => r' = r ∧ i_Rel (k + 3) u' v') v v1) u v1 := by
  obtain ⟨n, c, m, iv, ct, st, sd, rc, si, ri, g, vX, vY, IV, U, CT, NB, SV, TB, TS, ST, SD, RC, PL, SI, RI, LN, ND, SE, CP, KP, SL, rfl, rfl, hR⟩ := I
  have hR' := hR
  obtain ⟨hA, hTab, hU, hV⟩ := hR'
  have hA' := hA
  obtain ⟨hW, hIV, hCT, hNB, hST, hSD, hRC, hSI, hRI⟩ := hA'
  have hW' := hW
  obtain ⟨⟨⟨n2, n4⟩, ⟨c3, c8⟩, ⟨m4, m16⟩⟩, hS, hM, _⟩ := hW'
  have h10 : ¬ (1 : Int32) = 0 := by decide
  rcases pk_ix v1 (show m < 2 ^ 31 by omega) with h | h | ⟨p, hp, rfl⟩
  · simp only [wpX_lose]
    refine rx_badSN h ?_
    refine br_f h10 ?_
    simp only [wpY_lose]
    refine ry_badSN h ?_
    exact br_f h10 ⟨by trivial, rl_mk hR⟩
  · simp only [wpX_lose]
    refine rx_badSG h ?_
    refine br_f h10 ?_
    simp only [wpY_lose]
    refine ry_badSG h ?_
    exact br_f h10 ⟨by trivial, rl_mk hR⟩
  · have hst2 := (hM.1 p).1
    by_cases a : st p = 1
    · simp only [wpX_lose]
      refine rx_badS hp m16 ?_
      simp (disch := omega) only [hST, a, wpY_lose, forall_eq, Nat.le_refl, rl_10, rl_n10, nI_leI, nI_ltI, nI_eq, vp_in_nI, nI_clamp, nI_1, nI_add, rl_lt0, rl_0le, rl_eq0, rl_eq1, rl_eq2, rl_m1, rl_m8, rl_m100, rl_vb0, rl_vb1, true_implies, forall_const, not_true_eq_false, not_false_eq_true, false_implies, and_true, true_and, implies_true, and_self]
      refine ry_badS hp m16 ?_
      simp (disch := omega) only [hST, a, forall_eq, Nat.le_refl, rl_10, rl_n10, nI_leI, nI_ltI, nI_eq, vp_in_nI, nI_clamp, nI_1, nI_add, rl_lt0, rl_0le, rl_eq0, rl_eq1, rl_eq2, rl_m1, rl_m8, rl_m100, rl_vb0, rl_vb1, true_implies, forall_const, not_true_eq_false, not_false_eq_true, false_implies, and_true, true_and, implies_true, and_self]
      refine rl_mk (st := rl_u st p 0) ⟨⟨rl_W_drop hW (fun s => ?_), hIV, hCT, hNB, rl_uI hST p 0, hSD, hRC, hSI, hRI⟩, hTab, hU, hV⟩
      by_cases e : s = p
      · rw [e, rl_us]; exact Or.inr rfl
      · rw [rl_un e]; exact Or.inl rfl
    · simp only [wpX_lose]
      refine rx_badS hp m16 ?_
      simp (disch := omega) only [hST, a, wpY_lose, forall_eq, Nat.le_refl, rl_10, rl_n10, nI_leI, nI_ltI, nI_eq, vp_in_nI, nI_clamp, nI_1, nI_add, rl_lt0, rl_0le, rl_eq0, rl_eq1, rl_eq2, rl_m1, rl_m8, rl_m100, rl_vb0, rl_vb1, true_implies, forall_const, not_true_eq_false, not_false_eq_true, false_implies, and_true, true_and, implies_true, and_self]
      refine ry_badS hp m16 ?_
      simp (disch := omega) only [hST, a, forall_eq, Nat.le_refl, rl_10, rl_n10, nI_leI, nI_ltI, nI_eq, vp_in_nI, nI_clamp, nI_1, nI_add, rl_lt0, rl_0le, rl_eq0, rl_eq1, rl_eq2, rl_m1, rl_m8, rl_m100, rl_vb0, rl_vb1, true_implies, forall_const, not_true_eq_false, not_false_eq_true, false_implies, and_true, true_and, implies_true, and_self]
      exact rl_mk hR
theorem i_vc_deliver {k : Nat} {u : SX} {v : SY} (I : i_Rel k u v) (hk : k + 3 ≤ 1539) (v1 : Int32) : wpX_deliver (fun r u' => wpY_deliver (fun r' v' => r' = r ∧ i_Rel (k + 3) u' v') v v1) u v1 := by
  obtain ⟨n, c, m, iv, ct, st, sd, rc, si, ri, g, vX, vY, IV, U, CT, NB, SV, TB, TS, ST, SD, RC, PL, SI, RI, LN, ND, SE, CP, KP, SL, rfl, rfl, hR⟩ := I
  have hR' := hR
  obtain ⟨hA, hTab, hU, hV⟩ := hR'
  have hA' := hA
  obtain ⟨hW, hIV, hCT, hNB, hST, hSD, hRC, hSI, hRI⟩ := hA'
  have hW' := hW
  obtain ⟨⟨⟨n2, n4⟩, ⟨c3, c8⟩, ⟨m4, m16⟩⟩, hS, hM, _⟩ := hW'
  have h10 : ¬ (1 : Int32) = 0 := by decide
  rcases pk_ix v1 (show m < 2 ^ 31 by omega) with h | h | ⟨p, hp, rfl⟩
  · simp only [wpX_deliver]
    refine rx_badSN h ?_
    refine br_f h10 ?_
    simp only [wpY_deliver]
    refine ry_badSN h ?_
    exact br_f h10 ⟨by trivial, rl_mk hR⟩
  · simp only [wpX_deliver]
    refine rx_badSG h ?_
    refine br_f h10 ?_
    simp only [wpY_deliver]
    refine ry_badSG h ?_
    exact br_f h10 ⟨by trivial, rl_mk hR⟩
  · obtain ⟨hst2, t2, t3, t4, t5⟩ := hM.1 p
    by_cases a : st p = 1
    · by_cases b : U (rc p) = 0
      · simp only [wpX_deliver]
        refine rx_badS hp m16 ?_
        simp (disch := omega) only [hST, hRC, a, b, wpY_deliver, forall_eq, Nat.le_refl, rl_10, rl_n10, nI_leI, nI_ltI, nI_eq, vp_in_nI, nI_clamp, nI_1, nI_add, rl_lt0, rl_0le, rl_eq0, rl_eq1, rl_eq2, rl_m1, rl_m8, rl_m100, rl_vb0, rl_vb1, true_implies, forall_const, not_true_eq_false, not_false_eq_true, false_implies, and_true, true_and, implies_true, and_self]
        refine ry_badS hp m16 ?_
        simp (disch := omega) only [hST, hRC, a, b, forall_eq, Nat.le_refl, rl_10, rl_n10, nI_leI, nI_ltI, nI_eq, vp_in_nI, nI_clamp, nI_1, nI_add, rl_lt0, rl_0le, rl_eq0, rl_eq1, rl_eq2, rl_m1, rl_m8, rl_m100, rl_vb0, rl_vb1, true_implies, forall_const, not_true_eq_false, not_false_eq_true, false_implies, and_true, true_and, implies_true, and_self]
        exact rl_mk hR
      · simp only [wpX_deliver]
        refine rx_badS hp m16 ?_
        simp (disch := omega) only [hST, hRC, hIV, a, b, wpX_mixIn, wpY_deliver, forall_eq, Nat.le_refl, rl_10, rl_n10, nI_leI, nI_ltI, nI_eq, vp_in_nI, nI_clamp, nI_1, nI_add, rl_lt0, rl_0le, rl_eq0, rl_eq1, rl_eq2, rl_m1, rl_m8, rl_m100, rl_vb0, rl_vb1, true_implies, forall_const, not_true_eq_false, not_false_eq_true, false_implies, and_true, true_and, implies_true, and_self]
        refine ry_badS hp m16 ?_
        simp (disch := omega) only [hST, hRC, hIV, a, b, forall_eq, Nat.le_refl, rl_10, rl_n10, nI_leI, nI_ltI, nI_eq, vp_in_nI, nI_clamp, nI_1, nI_add, rl_lt0, rl_0le, rl_eq0, rl_eq1, rl_eq2, rl_m1, rl_m8, rl_m100, rl_vb0, rl_vb1, true_implies, forall_const, not_true_eq_false, not_false_eq_true, false_implies, and_true, true_and, implies_true, and_self]
        refine rl_mk (st := rl_u st p 2) (ri := rl_u ri p (iv (rc p))) ⟨⟨rl_W_deliver hW, hIV, hCT, hNB, rl_uI hST p 2, hSD, hRC, hSI, rl_uI hRI p _⟩, hTab, hU, fun q hq hu => ?_⟩
        by_cases e : q = rc p
        · rw [e, pk_us, pk_us, hV _ t3 b]
        · rw [pk_un e, pk_un e]; exact hV q hq hu
    · simp only [wpX_deliver]
      refine rx_badS hp m16 ?_
      simp (disch := omega) only [hST, a, wpY_deliver, forall_eq, Nat.le_refl, rl_10, rl_n10, nI_leI, nI_ltI, nI_eq, vp_in_nI, nI_clamp, nI_1, nI_add, rl_lt0, rl_0le, rl_eq0, rl_eq1, rl_eq2, rl_m1, rl_m8, rl_m100, rl_vb0, rl_vb1, true_implies, forall_const, not_true_eq_false, not_false_eq_true, false_implies, and_true, true_and, implies_true, and_self]
      refine ry_badS hp m16 ?_
      simp (disch := omega) only [hST, a, forall_eq, Nat.le_refl, rl_10, rl_n10, nI_leI, nI_ltI, nI_eq, vp_in_nI, nI_clamp, nI_1, nI_add, rl_lt0, rl_0le, rl_eq0, rl_eq1, rl_eq2, rl_m1, rl_m8, rl_m100, rl_vb0, rl_vb1, true_implies, forall_const, not_true_eq_false, not_false_eq_true, false_implies, and_true, true_and, implies_true, and_self]
      exact rl_mk hR
end
section
theorem i_vc_send {k : Nat} {u : SX} {v : SY} (I : i_Rel k u v) (hk : k + 3 ≤ 1539) (v1 : Int32) (v2 : Int32) : wpX_send (fun r u' => wpY_send (fun r' v' => r' = r ∧ i_Rel (k + 3) u' v') v v1 v2) u v1 v2 := by
  obtain ⟨n, c, m, iv, ct, st, sd, rc, si, ri, g, vX, vY, IV, U, CT, NB, SV, TB, TS, ST, SD, RC, PL, SI, RI, LN, ND, SE, CP, KP, SL, rfl, rfl, hR⟩ := I
  have hR' := hR
  obtain ⟨hA, hTab, hU, hV⟩ := hR'
  have hA' := hA
  obtain ⟨hW, hIV, hCT, hNB, hST, hSD, hRC, hSI, hRI⟩ := hA'
  have hW' := hW
  obtain ⟨⟨⟨n2, n4⟩, ⟨c3, c8⟩, ⟨m4, m16⟩⟩, hS, hM, _⟩ := hW'
  have h10 : ¬ (1 : Int32) = 0 := by decide
  have h2 : ∀ s, st s ≤ 2 := fun s => (hM.1 s).1
  rcases pk_ix v1 (show n < 2 ^ 31 by omega) with h | h | ⟨p, hp, rfl⟩
  · simp only [wpX_send]
    refine rx_badN h ?_
    refine br_f h10 ?_
    simp only [wpY_send]
    refine ry_badN h ?_
    exact br_f h10 ⟨by trivial, rl_mk hR⟩
  · simp only [wpX_send]
    refine rx_badG h ?_
    refine br_f h10 ?_
    simp only [wpY_send]
    refine ry_badG h ?_
    exact br_f h10 ⟨by trivial, rl_mk hR⟩
  · simp only [wpX_send]
    refine rx_bad hp n4 ?_
    refine br_t rfl ?_
    rcases pk_ix v2 (show n < 2 ^ 31 by omega) with h | h | ⟨q, hq, rfl⟩
    · refine rx_badN h ?_
      refine br_f h10 ?_
      simp only [wpY_send]
      refine ry_bad hp n4 ?_
      refine br_t rfl ?_
      refine ry_badN h ?_
      exact br_f h10 ⟨by trivial, rl_mk hR⟩
    · refine rx_badG h ?_
      refine br_f h10 ?_
      simp only [wpY_send]
      refine ry_bad hp n4 ?_
      refine br_t rfl ?_
      refine ry_badG h ?_
      exact br_f h10 ⟨by trivial, rl_mk hR⟩
    · refine rx_bad hq n4 ?_
      refine br_t rfl ?_
      by_cases e : p = q
      · refine br_t (by rw [e]) ?_
        simp only [wpY_send]
        refine ry_bad hp n4 ?_
        refine br_t rfl ?_
        refine ry_bad hq n4 ?_
        refine br_t rfl ?_
        exact br_t (by rw [e]) ⟨by trivial, rl_mk hR⟩
      · have e' : ¬ nI p = nI q := fun z => e ((nI_eq (by omega) (by omega)).mp z)
        have hcl : (nI p).toNatClampNeg = p := nI_clamp (by omega)
        have hin : vp_in (nI p) 4 := vp_in_nI (by omega) (by omega)
        refine br_f e' ⟨hin, ?_⟩
        by_cases a : U p = 0
        · refine br_t (by rw [hcl]; exact a) ?_
          simp only [wpY_send]
          refine ry_bad hp n4 ?_
          refine br_t rfl ?_
          refine ry_bad hq n4 ?_
          refine br_t rfl ?_
          refine br_f e' ⟨hin, ?_⟩
          exact br_t (by rw [hcl]; exact a) ⟨by trivial, rl_mk hR⟩
        · refine br_f (by rw [hcl]; exact a) ?_
          refine rx_empty m16 hST h2 (fun s hs he hne => ?_) (fun hne => ?_)
          · have hne4 := rl_ne4 (a := s) (by omega)
            simp (disch := omega) only [hne4, hIV, forall_eq, Nat.le_refl, rl_10, rl_n10, nI_leI, nI_ltI, nI_eq, vp_in_nI, nI_clamp, nI_1, nI_add, rl_lt0, rl_0le, rl_eq0, rl_eq1, rl_eq2, rl_m1, rl_m8, rl_m100, rl_vb0, rl_vb1, true_implies, forall_const, not_true_eq_false, not_false_eq_true, false_implies, and_true, true_and, implies_true, and_self]
            simp only [wpY_send]
            refine ry_bad hp n4 ?_
            refine br_t rfl ?_
            refine ry_bad hq n4 ?_
            refine br_t rfl ?_
            refine br_f e' ⟨hin, ?_⟩
            refine br_f (by rw [hcl]; exact a) ?_
            refine ⟨m + 1, ry_send_l (iv := iv) (st := st) (by omega) hIV m16 hST h2 hs he hne ?_ (m + 1) 0 (by omega) (by omega)⟩
            refine ⟨rfl, ?_⟩
            rw [hV p hp a]
            exact rl_mk (st := rl_u st s 1) (sd := rl_u sd s p) (rc := rl_u rc s q) (si := rl_u si s (iv p)) ⟨⟨rl_W_send hW hp hq, hIV, hCT, hNB, rl_uI hST s 1, rl_uI hSD s p, rl_uI hRC s q, rl_uI hSI s _, hRI⟩, hTab, hU, hV⟩
          · refine br_t rfl ?_
            simp only [wpY_send]
            refine ry_bad hp n4 ?_
            refine br_t rfl ?_
            refine ry_bad hq n4 ?_
            refine br_t rfl ?_
            refine br_f e' ⟨hin, ?_⟩
            refine br_f (by rw [hcl]; exact a) ?_
            exact ⟨m + 1, ry_sendF_l (st := st) m16 hST h2 hne ⟨by trivial, rl_mk hR⟩ (m + 1) 0 (by omega) (by omega)⟩
theorem i_vc_checkpoint {k : Nat} {u : SX} {v : SY} (I : i_Rel k u v) (hk : k + 3 ≤ 1539) (v1 : Int32) : wpX_checkpoint (fun r u' => wpY_checkpoint (fun r' v' => r' = r ∧ i_Rel (k + 3) u' v') v v1) u v1 := by
  obtain ⟨n, c, m, iv, ct, st, sd, rc, si, ri, g, vX, vY, IV, U, CT, NB, SV, TB, TS, ST, SD, RC, PL, SI, RI, LN, ND, SE, CP, KP, SL, rfl, rfl, hR⟩ := I
  have hR' := hR
  obtain ⟨hA, hTab, hU, hV⟩ := hR'
  have hA' := hA
  obtain ⟨hW, hIV, hCT, hNB, hST, hSD, hRC, hSI, hRI⟩ := hA'
  have hW' := hW
  obtain ⟨⟨⟨n2, n4⟩, ⟨c3, c8⟩, ⟨m4, m16⟩⟩, hS, hM, _⟩ := hW'
  have h10 : ¬ (1 : Int32) = 0 := by decide
  have hB := rl_B_of hR
  rcases pk_ix v1 (show n < 2 ^ 31 by omega) with h | h | ⟨p, hp, rfl⟩
  · simp only [wpX_checkpoint]
    refine rx_badN h ?_
    refine br_f h10 ?_
    simp only [wpY_checkpoint]
    refine ry_badN h ?_
    exact br_f h10 ⟨by trivial, rl_mk hR⟩
  · simp only [wpX_checkpoint]
    refine rx_badG h ?_
    refine br_f h10 ?_
    simp only [wpY_checkpoint]
    refine ry_badG h ?_
    exact br_f h10 ⟨by trivial, rl_mk hR⟩
  · obtain ⟨s1, s2, s3, s4, s5⟩ := hS p hp
    by_cases a : U p = 0
    · simp only [wpX_checkpoint]
      refine rx_bad hp n4 ?_
      simp (disch := omega) only [a, wpY_checkpoint, forall_eq, Nat.le_refl, rl_10, rl_n10, nI_leI, nI_ltI, nI_eq, vp_in_nI, nI_clamp, nI_1, nI_add, rl_lt0, rl_0le, rl_eq0, rl_eq1, rl_eq2, rl_m1, rl_m8, rl_m100, rl_vb0, rl_vb1, true_implies, forall_const, not_true_eq_false, not_false_eq_true, false_implies, and_true, true_and, implies_true, and_self]
      refine ry_bad hp n4 ?_
      simp (disch := omega) only [a, forall_eq, Nat.le_refl, rl_10, rl_n10, nI_leI, nI_ltI, nI_eq, vp_in_nI, nI_clamp, nI_1, nI_add, rl_lt0, rl_0le, rl_eq0, rl_eq1, rl_eq2, rl_m1, rl_m8, rl_m100, rl_vb0, rl_vb1, true_implies, forall_const, not_true_eq_false, not_false_eq_true, false_implies, and_true, true_and, implies_true, and_self]
      exact rl_mk hR
    · by_cases b : iv p < 99
      · by_cases d : ct p < c
        · simp only [wpX_checkpoint]
          refine rx_bad hp n4 ?_
          simp (disch := omega) only [a, b, d, hIV, hCT, rl_l99, pk_us, wpX_store, wpX_firstCell, wpY_checkpoint, forall_eq, Nat.le_refl, rl_10, rl_n10, nI_leI, nI_ltI, nI_eq, vp_in_nI, nI_clamp, nI_1, nI_add, rl_lt0, rl_0le, rl_eq0, rl_eq1, rl_eq2, rl_m1, rl_m8, rl_m100, rl_vb0, rl_vb1, true_implies, forall_const, not_true_eq_false, not_false_eq_true, false_implies, and_true, true_and, implies_true, and_self]
          refine ry_bad hp n4 ?_
          simp (disch := omega) only [a, b, hIV, rl_l99, forall_eq, Nat.le_refl, rl_10, rl_n10, nI_leI, nI_ltI, nI_eq, vp_in_nI, nI_clamp, nI_1, nI_add, rl_lt0, rl_0le, rl_eq0, rl_eq1, rl_eq2, rl_m1, rl_m8, rl_m100, rl_vb0, rl_vb1, true_implies, forall_const, not_true_eq_false, not_false_eq_true, false_implies, and_true, true_and, implies_true, and_self]
          exact ⟨101, ry_chk_l hB hp b (fun _ => ⟨by trivial, rl_mk (rl_R_check hR hp b d a)⟩) (fun z => absurd d z) 101 0 (by omega) (by omega)⟩
        · simp only [wpX_checkpoint]
          refine rx_bad hp n4 ?_
          simp (disch := omega) only [a, b, d, hIV, hCT, rl_l99, wpY_checkpoint, forall_eq, Nat.le_refl, rl_10, rl_n10, nI_leI, nI_ltI, nI_eq, vp_in_nI, nI_clamp, nI_1, nI_add, rl_lt0, rl_0le, rl_eq0, rl_eq1, rl_eq2, rl_m1, rl_m8, rl_m100, rl_vb0, rl_vb1, true_implies, forall_const, not_true_eq_false, not_false_eq_true, false_implies, and_true, true_and, implies_true, and_self]
          refine ry_bad hp n4 ?_
          simp (disch := omega) only [a, b, hIV, rl_l99, forall_eq, Nat.le_refl, rl_10, rl_n10, nI_leI, nI_ltI, nI_eq, vp_in_nI, nI_clamp, nI_1, nI_add, rl_lt0, rl_0le, rl_eq0, rl_eq1, rl_eq2, rl_m1, rl_m8, rl_m100, rl_vb0, rl_vb1, true_implies, forall_const, not_true_eq_false, not_false_eq_true, false_implies, and_true, true_and, implies_true, and_self]
          exact ⟨101, ry_chk_l hB hp b (fun z => absurd z d) (fun _ => ⟨by trivial, rl_mk hR⟩) 101 0 (by omega) (by omega)⟩
      · simp only [wpX_checkpoint]
        refine rx_bad hp n4 ?_
        simp (disch := omega) only [a, b, hIV, rl_l99, wpY_checkpoint, forall_eq, Nat.le_refl, rl_10, rl_n10, nI_leI, nI_ltI, nI_eq, vp_in_nI, nI_clamp, nI_1, nI_add, rl_lt0, rl_0le, rl_eq0, rl_eq1, rl_eq2, rl_m1, rl_m8, rl_m100, rl_vb0, rl_vb1, true_implies, forall_const, not_true_eq_false, not_false_eq_true, false_implies, and_true, true_and, implies_true, and_self]
        refine ry_bad hp n4 ?_
        simp (disch := omega) only [a, b, hIV, rl_l99, forall_eq, Nat.le_refl, rl_10, rl_n10, nI_leI, nI_ltI, nI_eq, vp_in_nI, nI_clamp, nI_1, nI_add, rl_lt0, rl_0le, rl_eq0, rl_eq1, rl_eq2, rl_m1, rl_m8, rl_m100, rl_vb0, rl_vb1, true_implies, forall_const, not_true_eq_false, not_false_eq_true, false_implies, and_true, true_and, implies_true, and_self]
        exact rl_mk hR
theorem i_vc_checkpointNumber {k : Nat} {u : SX} {v : SY} (I : i_Rel k u v) (hk : k + 3 ≤ 1539) (v1 : Int32) (v2 : Int32) : wpX_checkpointNumber (fun r => wpY_checkpointNumber (fun r' => r' = r ∧ i_Rel (k + 3) u v) v v1 v2) u v1 v2 := by
  obtain ⟨n, c, m, iv, ct, st, sd, rc, si, ri, g, vX, vY, IV, U, CT, NB, SV, TB, TS, ST, SD, RC, PL, SI, RI, LN, ND, SE, CP, KP, SL, rfl, rfl, hR⟩ := I
  have hR' := hR
  obtain ⟨hA, hTab, hU, hV⟩ := hR'
  have hA' := hA
  obtain ⟨hW, hIV, hCT, hNB, hST, hSD, hRC, hSI, hRI⟩ := hA'
  have hW' := hW
  obtain ⟨⟨⟨n2, n4⟩, ⟨c3, c8⟩, ⟨m4, m16⟩⟩, hS, hM, _⟩ := hW'
  have h10 : ¬ (1 : Int32) = 0 := by decide
  have hB := rl_B_of hR
  rcases pk_ix v1 (show n < 2 ^ 31 by omega) with h | h | ⟨p, hp, rfl⟩
  · simp only [wpX_checkpointNumber]
    refine rx_badN h ?_
    refine br_f h10 ?_
    simp only [wpY_checkpointNumber]
    refine ry_badN h ?_
    exact br_f h10 ⟨by trivial, rl_mk hR⟩
  · simp only [wpX_checkpointNumber]
    refine rx_badG h ?_
    refine br_f h10 ?_
    simp only [wpY_checkpointNumber]
    refine ry_badG h ?_
    exact br_f h10 ⟨by trivial, rl_mk hR⟩
  · obtain ⟨s1, s2, s3, s4, s5⟩ := hS p hp
    have none : (∀ j, j < ct p → ¬ v2 = nI j) → wpY_checkpointNumber (fun r' => r' = -4 ∧ i_Rel (k + 3) (nI n, nI c, nI m, vX, IV, U, CT, NB, SV, ST, SD, RC, PL, SI, RI, LN, ND, SE) (nI n, nI c, nI m, vY, IV, U, TB, TS, ST, SD, RC, PL, SI, RI, CP, KP, SL)) (nI n, nI c, nI m, vY, IV, U, TB, TS, ST, SD, RC, PL, SI, RI, CP, KP, SL) (nI p) v2 := by
      intro hn
      simp only [wpY_checkpointNumber]
      refine ry_bad hp n4 ?_
      refine br_t rfl ?_
      exact ⟨101, ry_cnum_l hB hp (fun j hj e => absurd e (hn j hj)) (fun _ => ⟨by trivial, rl_mk hR⟩) 101 0 (by omega) (by omega) (fun j _ hj => absurd hj (by omega))⟩
    rcases pk_ix v2 (show ct p < 2 ^ 31 by omega) with h | h | ⟨j, hj, rfl⟩
    · simp only [wpX_checkpointNumber]
      refine rx_bad hp n4 ?_
      simp (disch := omega) only [h, forall_eq, Nat.le_refl, rl_10, rl_n10, nI_leI, nI_ltI, nI_eq, vp_in_nI, nI_clamp, nI_1, nI_add, rl_lt0, rl_0le, rl_eq0, rl_eq1, rl_eq2, rl_m1, rl_m8, rl_m100, rl_vb0, rl_vb1, true_implies, forall_const, not_true_eq_false, not_false_eq_true, false_implies, and_true, true_and, implies_true, and_self]
      exact none (fun j hj e => by rw [e] at h; exact nI_pos (by omega) h)
    · have h' : ¬ v2 < nI (ct p) := Int32.not_lt.mpr h
      have h0 : ¬ v2 < 0 := Int32.not_lt.mpr (Int32.le_trans (nI_pos' (by omega)) h)
      simp only [wpX_checkpointNumber]
      refine rx_bad hp n4 ?_
      simp (disch := omega) only [h', h0, hCT, forall_eq, Nat.le_refl, rl_10, rl_n10, nI_leI, nI_ltI, nI_eq, vp_in_nI, nI_clamp, nI_1, nI_add, rl_lt0, rl_0le, rl_eq0, rl_eq1, rl_eq2, rl_m1, rl_m8, rl_m100, rl_vb0, rl_vb1, true_implies, forall_const, not_true_eq_false, not_false_eq_true, false_implies, and_true, true_and, implies_true, and_self]
      exact none (fun j hj e => by rw [e] at h; exact absurd ((nI_leI (by omega) (by omega)).mp h) (by omega))
    · simp only [wpX_checkpointNumber]
      refine rx_bad hp n4 ?_
      simp (disch := omega) only [hj, hCT, hNB p hp j hj, wpX_firstCell, wpY_checkpointNumber, forall_eq, Nat.le_refl, rl_10, rl_n10, nI_leI, nI_ltI, nI_eq, vp_in_nI, nI_clamp, nI_1, nI_add, rl_lt0, rl_0le, rl_eq0, rl_eq1, rl_eq2, rl_m1, rl_m8, rl_m100, rl_vb0, rl_vb1, true_implies, forall_const, not_true_eq_false, not_false_eq_true, false_implies, and_true, true_and, implies_true, and_self]
      refine ry_bad hp n4 ?_
      refine br_t rfl ?_
      refine ⟨101, ry_cnum_l hB hp (fun i hi e => ?_) (fun hn => absurd rfl (hn j hj)) 101 0 (by omega) (by omega) (fun j _ hj => absurd hj (by omega))⟩
      have e2 : j = i := (nI_eq (by omega) (by omega)).mp e
      rw [e2]
      exact ⟨by trivial, rl_mk hR⟩
theorem i_vc_savedValue {k : Nat} {u : SX} {v : SY} (I : i_Rel k u v) (hk : k + 3 ≤ 1539) (v1 : Int32) (v2 : Int32) : wpX_savedValue (fun r => wpY_savedValue (fun r' => r' = r ∧ i_Rel (k + 3) u v) v v1 v2) u v1 v2 := by
  obtain ⟨n, c, m, iv, ct, st, sd, rc, si, ri, g, vX, vY, IV, U, CT, NB, SV, TB, TS, ST, SD, RC, PL, SI, RI, LN, ND, SE, CP, KP, SL, rfl, rfl, hR⟩ := I
  have hR' := hR
  obtain ⟨hA, hTab, hU, hV⟩ := hR'
  have hA' := hA
  obtain ⟨hW, hIV, hCT, hNB, hST, hSD, hRC, hSI, hRI⟩ := hA'
  have hW' := hW
  obtain ⟨⟨⟨n2, n4⟩, ⟨c3, c8⟩, ⟨m4, m16⟩⟩, hS, hM, _⟩ := hW'
  have h10 : ¬ (1 : Int32) = 0 := by decide
  rcases pk_ix v1 (show n < 2 ^ 31 by omega) with h | h | ⟨p, hp, rfl⟩
  · simp only [wpX_savedValue]
    refine rx_badN h ?_
    refine br_f h10 ?_
    simp only [wpY_savedValue]
    refine ry_badN h ?_
    exact br_f h10 ⟨by trivial, rl_mk hR⟩
  · simp only [wpX_savedValue]
    refine rx_badG h ?_
    refine br_f h10 ?_
    simp only [wpY_savedValue]
    refine ry_badG h ?_
    exact br_f h10 ⟨by trivial, rl_mk hR⟩
  · obtain ⟨s1, s2, s3, s4, s5⟩ := hS p hp
    simp only [wpX_savedValue]
    refine rx_bad hp n4 ?_
    refine br_t rfl ?_
    refine rx_cellOf (K := ct p) (gp := g p) (by omega) (by omega) (hCT p) (hNB p hp) (fun j hj ej => ?_) (fun hn => ?_)
    · have hg := s4 j hj
      have hne4 := rl_ne4 (a := p * 8 + j) (by omega)
      have hT := (hTab.1 p hp (g p j) (by omega)).mpr ⟨j, hj, rfl⟩
      simp (disch := omega) only [hne4, wpY_savedValue, forall_eq, Nat.le_refl, rl_10, rl_n10, nI_leI, nI_ltI, nI_eq, vp_in_nI, nI_clamp, nI_1, nI_add, rl_lt0, rl_0le, rl_eq0, rl_eq1, rl_eq2, rl_m1, rl_m8, rl_m100, rl_vb0, rl_vb1, true_implies, forall_const, not_true_eq_false, not_false_eq_true, false_implies, and_true, true_and, implies_true, and_self]
      refine ry_bad hp n4 ?_
      refine br_t rfl ?_
      rw [← ej]
      refine ry_isSt (by omega) (by omega) (fun _ => ?_) (fun z => absurd z hT)
      simp (disch := omega) only [forall_eq, Nat.le_refl, rl_10, rl_n10, nI_leI, nI_ltI, nI_eq, vp_in_nI, nI_clamp, nI_1, nI_add, rl_lt0, rl_0le, rl_eq0, rl_eq1, rl_eq2, rl_m1, rl_m8, rl_m100, rl_vb0, rl_vb1, true_implies, forall_const, not_true_eq_false, not_false_eq_true, false_implies, and_true, true_and, implies_true, and_self]
      exact ⟨(hTab.2.2 p hp j hj).symm, rl_mk hR⟩
    · refine br_t rfl ?_
      simp only [wpY_savedValue]
      refine ry_bad hp n4 ?_
      refine br_t rfl ?_
      rcases pk_ix v2 (show 100 < 2 ^ 31 by omega) with h | h | ⟨i, hi, rfl⟩
      · refine ry_isStN h ?_
        exact br_t rfl ⟨by trivial, rl_mk hR⟩
      · refine ry_isStG h ?_
        exact br_t rfl ⟨by trivial, rl_mk hR⟩
      · refine ry_isSt (by omega) hi (fun z => ?_) (fun _ => ?_)
        · obtain ⟨j, hj, ej⟩ := (hTab.1 p hp i hi).mp z
          exact absurd (by rw [ej]) (hn j hj)
        · exact br_t rfl ⟨by trivial, rl_mk hR⟩
theorem i_vc_needed {k : Nat} {u : SX} {v : SY} (I : i_Rel k u v) (hk : k + 3 ≤ 1539) (v1 : Int32) (v2 : Int32) : wpX_needed (fun r u' => wpY_needed (fun r' v' => r' = r ∧ i_Rel (k + 3) u' v') v v1 v2) u v1 v2 := by
  obtain ⟨n, c, m, iv, ct, st, sd, rc, si, ri, g, vX, vY, IV, U, CT, NB, SV, TB, TS, ST, SD, RC, PL, SI, RI, LN, ND, SE, CP, KP, SL, rfl, rfl, hR⟩ := I
  have hR' := hR
  obtain ⟨hA, hTab, hU, hV⟩ := hR'
  have hA' := hA
  obtain ⟨hW, hIV, hCT, hNB, hST, hSD, hRC, hSI, hRI⟩ := hA'
  have hW' := hW
  obtain ⟨⟨⟨n2, n4⟩, ⟨c3, c8⟩, ⟨m4, m16⟩⟩, hS, hM, _⟩ := hW'
  have h10 : ¬ (1 : Int32) = 0 := by decide
  have hB := rl_B_of hR
  obtain ⟨Ls, hL⟩ := Classical.axiomOfChoice (rl_exL hW)
  rcases pk_ix v1 (show n < 2 ^ 31 by omega) with h | h | ⟨p, hp, rfl⟩
  · simp only [wpX_needed]
    refine rx_badN h ?_
    refine br_f h10 ?_
    simp only [wpY_needed]
    refine ry_badN h ?_
    exact br_f h10 ⟨by trivial, rl_mk hR⟩
  · simp only [wpX_needed]
    refine rx_badG h ?_
    refine br_f h10 ?_
    simp only [wpY_needed]
    refine ry_badG h ?_
    exact br_f h10 ⟨by trivial, rl_mk hR⟩
  · obtain ⟨s1, s2, s3, s4, s5⟩ := hS p hp
    simp only [wpX_needed]
    refine rx_bad hp n4 ?_
    refine br_t rfl ?_
    refine rx_cellOf (K := ct p) (gp := g p) (by omega) (by omega) (hCT p) (hNB p hp) (fun j hj ej => ?_) (fun hn => ?_)
    · have hg := s4 j hj
      have hne4 := rl_ne4 (a := p * 8 + j) (by omega)
      have hT := (hTab.1 p hp (g p j) (by omega)).mpr ⟨j, hj, rfl⟩
      refine br_f hne4 ?_
      refine rx_mns hA hL (fun LN1 ND1 SE1 r1 r2 => ?_)
      have hr := r1 p hp j hj
      by_cases a : ND1 (p * 8 + j) = 0
      · simp (disch := omega) only [a, wpY_needed, forall_eq, Nat.le_refl, rl_10, rl_n10, nI_leI, nI_ltI, nI_eq, vp_in_nI, nI_clamp, nI_1, nI_add, rl_lt0, rl_0le, rl_eq0, rl_eq1, rl_eq2, rl_m1, rl_m8, rl_m100, rl_vb0, rl_vb1, true_implies, forall_const, not_true_eq_false, not_false_eq_true, false_implies, and_true, true_and, implies_true, and_self]
        refine ry_bad hp n4 ?_
        refine br_t rfl ?_
        rw [← ej]
        refine ry_isSt (by omega) (by omega) (fun _ => ?_) (fun z => absurd z hT)
        refine br_f h10 ?_
        refine ry_judge hB hL (fun CP1 KP1 SL1 r3 r4 => ?_)
        have hk2 := r3 p hp j hj
        have b : KP1 (p * 100 + g p j) = 0 := by
          apply Classical.byContradiction
          intro z
          exact (hr.mpr (hk2.mp z)) a
        simp (disch := omega) only [b, forall_eq, Nat.le_refl, rl_10, rl_n10, nI_leI, nI_ltI, nI_eq, vp_in_nI, nI_clamp, nI_1, nI_add, rl_lt0, rl_0le, rl_eq0, rl_eq1, rl_eq2, rl_m1, rl_m8, rl_m100, rl_vb0, rl_vb1, true_implies, forall_const, not_true_eq_false, not_false_eq_true, false_implies, and_true, true_and, implies_true, and_self]
        exact rl_mk hR
      · simp (disch := omega) only [a, wpY_needed, forall_eq, Nat.le_refl, rl_10, rl_n10, nI_leI, nI_ltI, nI_eq, vp_in_nI, nI_clamp, nI_1, nI_add, rl_lt0, rl_0le, rl_eq0, rl_eq1, rl_eq2, rl_m1, rl_m8, rl_m100, rl_vb0, rl_vb1, true_implies, forall_const, not_true_eq_false, not_false_eq_true, false_implies, and_true, true_and, implies_true, and_self]
        refine ry_bad hp n4 ?_
        refine br_t rfl ?_
        rw [← ej]
        refine ry_isSt (by omega) (by omega) (fun _ => ?_) (fun z => absurd z hT)
        refine br_f h10 ?_
        refine ry_judge hB hL (fun CP1 KP1 SL1 r3 r4 => ?_)
        have hk2 := r3 p hp j hj
        have b : ¬ KP1 (p * 100 + g p j) = 0 := hk2.mpr (hr.mp a)
        simp (disch := omega) only [b, forall_eq, Nat.le_refl, rl_10, rl_n10, nI_leI, nI_ltI, nI_eq, vp_in_nI, nI_clamp, nI_1, nI_add, rl_lt0, rl_0le, rl_eq0, rl_eq1, rl_eq2, rl_m1, rl_m8, rl_m100, rl_vb0, rl_vb1, true_implies, forall_const, not_true_eq_false, not_false_eq_true, false_implies, and_true, true_and, implies_true, and_self]
        exact rl_mk hR
    · refine br_t rfl ?_
      simp only [wpY_needed]
      refine ry_bad hp n4 ?_
      refine br_t rfl ?_
      rcases pk_ix v2 (show 100 < 2 ^ 31 by omega) with h | h | ⟨i, hi, rfl⟩
      · refine ry_isStN h ?_
        exact br_t rfl ⟨by trivial, rl_mk hR⟩
      · refine ry_isStG h ?_
        exact br_t rfl ⟨by trivial, rl_mk hR⟩
      · refine ry_isSt (by omega) hi (fun z => ?_) (fun _ => ?_)
        · obtain ⟨j, hj, ej⟩ := (hTab.1 p hp i hi).mp z
          exact absurd (by rw [ej]) (hn j hj)
        · exact br_t rfl ⟨by trivial, rl_mk hR⟩
theorem i_vc_probe {k : Nat} {u : SX} {v : SY} (I : i_Rel k u v) (hk : k + 3 ≤ 1539) (v1 : Int32) (v2 : Int32) : wpX_probe (fun r u' => wpY_probe (fun r' v' => r' = r ∧ i_Rel (k + 3) u' v') v v1 v2) u v1 v2 := by
  obtain ⟨n, c, m, iv, ct, st, sd, rc, si, ri, g, vX, vY, IV, U, CT, NB, SV, TB, TS, ST, SD, RC, PL, SI, RI, LN, ND, SE, CP, KP, SL, rfl, rfl, hR⟩ := I
  have hR' := hR
  obtain ⟨hA, hTab, hU, hV⟩ := hR'
  have hA' := hA
  obtain ⟨hW, hIV, hCT, hNB, hST, hSD, hRC, hSI, hRI⟩ := hA'
  have hW' := hW
  obtain ⟨⟨⟨n2, n4⟩, ⟨c3, c8⟩, ⟨m4, m16⟩⟩, hS, hM, _⟩ := hW'
  have h10 : ¬ (1 : Int32) = 0 := by decide
  have hB := rl_B_of hR
  rcases pk_ix v2 (show n < 2 ^ 31 by omega) with h | h | ⟨p, hp, rfl⟩
  · simp only [wpX_probe]
    refine rx_badN h ?_
    refine br_f h10 ?_
    simp only [wpY_probe]
    refine ry_badN h ?_
    exact br_f h10 ⟨by trivial, rl_mk hR⟩
  · simp only [wpX_probe]
    refine rx_badG h ?_
    refine br_f h10 ?_
    simp only [wpY_probe]
    refine ry_badG h ?_
    exact br_f h10 ⟨by trivial, rl_mk hR⟩
  · obtain ⟨s1, s2, s3, s4, s5⟩ := hS p hp
    obtain ⟨L, hL⟩ := rl_exL hW (rl_or (rl_dn U) n ||| v1)
    have hG := rl_G_100 hS (L p) hp
    have hLe : L p ≤ ct p := Nat.le_trans (hL.1 p hp) (rl_tp_le ct _ p)
    simp only [wpX_probe]
    refine rx_bad hp n4 ?_
    refine br_t rfl ?_
    refine rx_down n4 ?_
    try dsimp only
    refine rx_find hA hL (fun LN1 r1 => ?_)
    try dsimp only
    refine rx_isNow (v := iv p) (y := rl_G ct g iv p (L p)) (by omega) (by omega) (by omega) (hIV p) (r1 p hp) (fun a => ?_) (fun a => ?_)
    · have hc : ¬ L p < ct p := by
        intro z
        rw [rl_G_in z] at a
        have := s4 _ z
        omega
      have hGn : rl_G ct g iv p (L p) = iv p + 1 := rl_G_now hc
      refine br_f h10 ?_
      simp only [wpY_probe]
      refine ry_bad hp n4 ?_
      refine br_t rfl ?_
      refine ry_down n2 n4 ?_
      refine nm_e ?_
      refine ry_line hB hL (fun CP1 r3 => ?_)
      have hcp := r3 p hp
      rw [hGn] at hcp
      simp (disch := omega) only [hcp, hIV, forall_eq, Nat.le_refl, rl_10, rl_n10, nI_leI, nI_ltI, nI_eq, vp_in_nI, nI_clamp, nI_1, nI_add, rl_lt0, rl_0le, rl_eq0, rl_eq1, rl_eq2, rl_m1, rl_m8, rl_m100, rl_vb0, rl_vb1, true_implies, forall_const, not_true_eq_false, not_false_eq_true, false_implies, and_true, true_and, implies_true, and_self]
      exact rl_mk hR
    · have hc : L p < ct p := by
        by_cases z : L p < ct p
        · exact z
        · rw [rl_G_now z] at a; omega
      have hne : ¬ rl_G ct g iv p (L p) = iv p + 1 := by omega
      have hln := r1 p hp
      simp (disch := omega) only [hln, wpY_probe, forall_eq, Nat.le_refl, rl_10, rl_n10, nI_leI, nI_ltI, nI_eq, vp_in_nI, nI_clamp, nI_1, nI_add, rl_lt0, rl_0le, rl_eq0, rl_eq1, rl_eq2, rl_m1, rl_m8, rl_m100, rl_vb0, rl_vb1, true_implies, forall_const, not_true_eq_false, not_false_eq_true, false_implies, and_true, true_and, implies_true, and_self]
      refine ry_bad hp n4 ?_
      refine br_t rfl ?_
      refine ry_down n2 n4 ?_
      try dsimp only
      refine ry_line hB hL (fun CP1 r3 => ?_)
      have hcp := r3 p hp
      simp (disch := omega) only [hcp, hIV, hne, forall_eq, Nat.le_refl, rl_10, rl_n10, nI_leI, nI_ltI, nI_eq, vp_in_nI, nI_clamp, nI_1, nI_add, rl_lt0, rl_0le, rl_eq0, rl_eq1, rl_eq2, rl_m1, rl_m8, rl_m100, rl_vb0, rl_vb1, true_implies, forall_const, not_true_eq_false, not_false_eq_true, false_implies, and_true, true_and, implies_true, and_self]
      exact rl_mk hR
theorem i_vc_recover {k : Nat} {u : SX} {v : SY} (I : i_Rel k u v) (hk : k + 3 ≤ 1539) : wpX_recover (fun r u' => wpY_recover (fun r' v' => r' = r ∧ i_Rel (k + 3) u' v') v) u := by
  obtain ⟨n, c, m, iv, ct, st, sd, rc, si, ri, g, vX, vY, IV, U, CT, NB, SV, TB, TS, ST, SD, RC, PL, SI, RI, LN, ND, SE, CP, KP, SL, rfl, rfl, hR⟩ := I
  have hR' := hR
  obtain ⟨hA, hTab, hU, hV⟩ := hR'
  have hA' := hA
  obtain ⟨hW, hIV, hCT, hNB, hST, hSD, hRC, hSI, hRI⟩ := hA'
  have hW' := hW
  obtain ⟨⟨⟨n2, n4⟩, ⟨c3, c8⟩, ⟨m4, m16⟩⟩, hS, hM, _⟩ := hW'
  have h10 : ¬ (1 : Int32) = 0 := by decide
  have hB := rl_B_of hR
  obtain ⟨L, hL⟩ := rl_exL hW (rl_or (rl_dn U) n)
  refine rx_recover hA hL (fun z => ?_) (fun z LN1 => ?_)
  · exact ry_recover hB hL (fun _ => ⟨by trivial, rl_mk hR⟩) (fun y => absurd z y)
  · exact ry_recover hB hL (fun y => absurd y z) (fun _ CP1 => ⟨by trivial, rl_mk (rl_R_recover hR hL)⟩)
theorem i_vc_reclaim {k : Nat} {u : SX} {v : SY} (I : i_Rel k u v) (hk : k + 3 ≤ 1539) : wpX_reclaim (fun r u' => wpY_reclaim (fun r' v' => r' = r ∧ i_Rel (k + 3) u' v') v) u := by
  obtain ⟨n, c, m, iv, ct, st, sd, rc, si, ri, g, vX, vY, IV, U, CT, NB, SV, TB, TS, ST, SD, RC, PL, SI, RI, LN, ND, SE, CP, KP, SL, rfl, rfl, hR⟩ := I
  have hR' := hR
  obtain ⟨hA, hTab, hU, hV⟩ := hR'
  have hA' := hA
  obtain ⟨hW, hIV, hCT, hNB, hST, hSD, hRC, hSI, hRI⟩ := hA'
  have hW' := hW
  obtain ⟨⟨⟨n2, n4⟩, ⟨c3, c8⟩, ⟨m4, m16⟩⟩, hS, hM, _⟩ := hW'
  have h10 : ¬ (1 : Int32) = 0 := by decide
  have hB := rl_B_of hR
  obtain ⟨Ls, hL⟩ := Classical.axiomOfChoice (rl_exL hW)
  refine rx_reclaim hA hL (fun LN1 ND1 SE1 NB1 SV1 f r1 r2 r3 r4 => ?_)
  refine ry_reclaim hB hL (fun CP1 KP1 SL1 r5 r6 => ?_)
  obtain ⟨e1, e2, e3⟩ := rl_R_reclaim hR hL r1 r2 r3 r4 r5 r6
  rw [e1, e2]
  exact ⟨by trivial, rl_mk e3⟩
end
section
theorem i_vc_message {k : Nat} {u : SX} {v : SY} (I : i_Rel k u v) (hk : k + 3 ≤ 1539) (v1 : Int32) (v2 : Int32) : wpX_message (fun r => wpY_message (fun r' => r' = r ∧ i_Rel (k + 3) u v) v v1 v2) u v1 v2 := by
  obtain ⟨n, c, m, iv, ct, st, sd, rc, si, ri, g, vX, vY, IV, U, CT, NB, SV, TB, TS, ST, SD, RC, PL, SI, RI, LN, ND, SE, CP, KP, SL, rfl, rfl, hR⟩ := I
  have hR' := hR
  obtain ⟨hA, hTab, hU, hV⟩ := hR'
  have hA' := hA
  obtain ⟨hW, hIV, hCT, hNB, hST, hSD, hRC, hSI, hRI⟩ := hA'
  have hW' := hW
  obtain ⟨⟨⟨n2, n4⟩, ⟨c3, c8⟩, ⟨m4, m16⟩⟩, hS, hM, _⟩ := hW'
  have h10 : ¬ (1 : Int32) = 0 := by decide
  rcases pk_ix v1 (show m < 2 ^ 31 by omega) with h | h | ⟨p, hp, rfl⟩
  · simp only [wpX_message]
    refine rx_badSN h ?_
    refine br_f h10 ?_
    simp only [wpY_message]
    refine ry_badSN h ?_
    exact br_f h10 ⟨by trivial, rl_mk hR⟩
  · simp only [wpX_message]
    refine rx_badSG h ?_
    refine br_f h10 ?_
    simp only [wpY_message]
    refine ry_badSG h ?_
    exact br_f h10 ⟨by trivial, rl_mk hR⟩
  · obtain ⟨hst2, t2, t3, t4, t5⟩ := hM.1 p
    rcases pk_ix v2 (show 6 < 2 ^ 31 by omega) with h | h | ⟨j, hj, rfl⟩
    · simp only [wpX_message]
      refine rx_badS hp m16 ?_
      simp (disch := omega) only [h, wpY_message, forall_eq, Nat.le_refl, rl_10, rl_n10, nI_leI, nI_ltI, nI_eq, vp_in_nI, nI_clamp, nI_1, nI_add, rl_lt0, rl_0le, rl_eq0, rl_eq1, rl_eq2, rl_m1, rl_m8, rl_m100, rl_vb0, rl_vb1, true_implies, forall_const, not_true_eq_false, not_false_eq_true, false_implies, and_true, true_and, implies_true, and_self]
      refine ry_badS hp m16 ?_
      simp (disch := omega) only [h, forall_eq, Nat.le_refl, rl_10, rl_n10, nI_leI, nI_ltI, nI_eq, vp_in_nI, nI_clamp, nI_1, nI_add, rl_lt0, rl_0le, rl_eq0, rl_eq1, rl_eq2, rl_m1, rl_m8, rl_m100, rl_vb0, rl_vb1, true_implies, forall_const, not_true_eq_false, not_false_eq_true, false_implies, and_true, true_and, implies_true, and_self]
      exact rl_mk hR
    · have h0 : ¬ v2 < 0 := Int32.not_lt.mpr (Int32.le_trans (by decide) h)
      have h5 : ¬ v2 ≤ 5 := Int32.not_le.mpr (Int32.lt_of_lt_of_le (b := nI 6) (by decide) h)
      simp only [wpX_message]
      refine rx_badS hp m16 ?_
      simp (disch := omega) only [h0, h5, wpY_message, forall_eq, Nat.le_refl, rl_10, rl_n10, nI_leI, nI_ltI, nI_eq, vp_in_nI, nI_clamp, nI_1, nI_add, rl_lt0, rl_0le, rl_eq0, rl_eq1, rl_eq2, rl_m1, rl_m8, rl_m100, rl_vb0, rl_vb1, true_implies, forall_const, not_true_eq_false, not_false_eq_true, false_implies, and_true, true_and, implies_true, and_self]
      refine ry_badS hp m16 ?_
      simp (disch := omega) only [h0, h5, forall_eq, Nat.le_refl, rl_10, rl_n10, nI_leI, nI_ltI, nI_eq, vp_in_nI, nI_clamp, nI_1, nI_add, rl_lt0, rl_0le, rl_eq0, rl_eq1, rl_eq2, rl_m1, rl_m8, rl_m100, rl_vb0, rl_vb1, true_implies, forall_const, not_true_eq_false, not_false_eq_true, false_implies, and_true, true_and, implies_true, and_self]
      exact rl_mk hR
    · have hj' : j = 0 ∨ j = 1 ∨ j = 2 ∨ j = 3 ∨ j = 4 ∨ j = 5 := by omega
      rcases hj' with e | e | e | e | e | e <;> subst e
      · have f0 : ¬ (0 : Int32) < 0 := by decide
        have f1 : (0 : Int32) ≤ 5 := by decide
        have f3 : (0 : Int32) < 1 := by decide
        have f4 : ¬ 4 < (0 : Int32) := by decide
        have g0 : nI 0 = (0 : Int32) := rfl
        have g1 : ¬ (0 : Int32) = 1 := by decide
        have g2 : ¬ (0 : Int32) = 2 := by decide
        have g3 : ¬ (0 : Int32) = 3 := by decide
        have g4 : ¬ (0 : Int32) = 4 := by decide
        simp only [wpX_message]
        refine rx_badS hp m16 ?_
        simp (disch := omega) only [f0, f1, f3, f4, g0, g1, g2, g3, g4, wpY_message, forall_eq, Nat.le_refl, rl_10, rl_n10, nI_leI, nI_ltI, nI_eq, vp_in_nI, nI_clamp, nI_1, nI_add, rl_lt0, rl_0le, rl_eq0, rl_eq1, rl_eq2, rl_m1, rl_m8, rl_m100, rl_vb0, rl_vb1, true_implies, forall_const, not_true_eq_false, not_false_eq_true, false_implies, and_true, true_and, implies_true, and_self]
        refine ry_badS hp m16 ?_
        simp (disch := omega) only [f0, f1, f3, f4, g0, g1, g2, g3, g4, forall_eq, Nat.le_refl, rl_10, rl_n10, nI_leI, nI_ltI, nI_eq, vp_in_nI, nI_clamp, nI_1, nI_add, rl_lt0, rl_0le, rl_eq0, rl_eq1, rl_eq2, rl_m1, rl_m8, rl_m100, rl_vb0, rl_vb1, true_implies, forall_const, not_true_eq_false, not_false_eq_true, false_implies, and_true, true_and, implies_true, and_self]
        exact rl_mk hR
      · have f0 : ¬ (1 : Int32) < 0 := by decide
        have f1 : (1 : Int32) ≤ 5 := by decide
        have f3 : ¬ (1 : Int32) < 1 := by decide
        have f4 : ¬ 4 < (1 : Int32) := by decide
        have g0 : ¬ (1 : Int32) = 0 := by decide
        have g1 : nI 1 = (1 : Int32) := rfl
        have g2 : ¬ (1 : Int32) = 2 := by decide
        have g3 : ¬ (1 : Int32) = 3 := by decide
        have g4 : ¬ (1 : Int32) = 4 := by decide
        by_cases a : st p = 0
        · simp only [wpX_message]
          refine rx_badS hp m16 ?_
          simp (disch := omega) only [f0, f1, f3, f4, g0, g1, g2, g3, g4, hST, a, wpY_message, forall_eq, Nat.le_refl, rl_10, rl_n10, nI_leI, nI_ltI, nI_eq, vp_in_nI, nI_clamp, nI_1, nI_add, rl_lt0, rl_0le, rl_eq0, rl_eq1, rl_eq2, rl_m1, rl_m8, rl_m100, rl_vb0, rl_vb1, true_implies, forall_const, not_true_eq_false, not_false_eq_true, false_implies, and_true, true_and, implies_true, and_self]
          refine ry_badS hp m16 ?_
          simp (disch := omega) only [f0, f1, f3, f4, g0, g1, g2, g3, g4, hST, a, forall_eq, Nat.le_refl, rl_10, rl_n10, nI_leI, nI_ltI, nI_eq, vp_in_nI, nI_clamp, nI_1, nI_add, rl_lt0, rl_0le, rl_eq0, rl_eq1, rl_eq2, rl_m1, rl_m8, rl_m100, rl_vb0, rl_vb1, true_implies, forall_const, not_true_eq_false, not_false_eq_true, false_implies, and_true, true_and, implies_true, and_self]
          exact rl_mk hR
        · simp only [wpX_message]
          refine rx_badS hp m16 ?_
          simp (disch := omega) only [f0, f1, f3, f4, g0, g1, g2, g3, g4, hST, a, wpY_message, forall_eq, Nat.le_refl, rl_10, rl_n10, nI_leI, nI_ltI, nI_eq, vp_in_nI, nI_clamp, nI_1, nI_add, rl_lt0, rl_0le, rl_eq0, rl_eq1, rl_eq2, rl_m1, rl_m8, rl_m100, rl_vb0, rl_vb1, true_implies, forall_const, not_true_eq_false, not_false_eq_true, false_implies, and_true, true_and, implies_true, and_self]
          refine ry_badS hp m16 ?_
          simp (disch := omega) only [f0, f1, f3, f4, g0, g1, g2, g3, g4, hST, a, forall_eq, Nat.le_refl, rl_10, rl_n10, nI_leI, nI_ltI, nI_eq, vp_in_nI, nI_clamp, nI_1, nI_add, rl_lt0, rl_0le, rl_eq0, rl_eq1, rl_eq2, rl_m1, rl_m8, rl_m100, rl_vb0, rl_vb1, true_implies, forall_const, not_true_eq_false, not_false_eq_true, false_implies, and_true, true_and, implies_true, and_self]
          exact rl_mk hR
      · have f0 : ¬ (2 : Int32) < 0 := by decide
        have f1 : (2 : Int32) ≤ 5 := by decide
        have f3 : ¬ (2 : Int32) < 1 := by decide
        have f4 : ¬ 4 < (2 : Int32) := by decide
        have g0 : ¬ (2 : Int32) = 0 := by decide
        have g1 : ¬ (2 : Int32) = 1 := by decide
        have g2 : nI 2 = (2 : Int32) := rfl
        have g3 : ¬ (2 : Int32) = 3 := by decide
        have g4 : ¬ (2 : Int32) = 4 := by decide
        by_cases a : st p = 0
        · simp only [wpX_message]
          refine rx_badS hp m16 ?_
          simp (disch := omega) only [f0, f1, f3, f4, g0, g1, g2, g3, g4, hST, a, wpY_message, forall_eq, Nat.le_refl, rl_10, rl_n10, nI_leI, nI_ltI, nI_eq, vp_in_nI, nI_clamp, nI_1, nI_add, rl_lt0, rl_0le, rl_eq0, rl_eq1, rl_eq2, rl_m1, rl_m8, rl_m100, rl_vb0, rl_vb1, true_implies, forall_const, not_true_eq_false, not_false_eq_true, false_implies, and_true, true_and, implies_true, and_self]
          refine ry_badS hp m16 ?_
          simp (disch := omega) only [f0, f1, f3, f4, g0, g1, g2, g3, g4, hST, a, forall_eq, Nat.le_refl, rl_10, rl_n10, nI_leI, nI_ltI, nI_eq, vp_in_nI, nI_clamp, nI_1, nI_add, rl_lt0, rl_0le, rl_eq0, rl_eq1, rl_eq2, rl_m1, rl_m8, rl_m100, rl_vb0, rl_vb1, true_implies, forall_const, not_true_eq_false, not_false_eq_true, false_implies, and_true, true_and, implies_true, and_self]
          exact rl_mk hR
        · simp only [wpX_message]
          refine rx_badS hp m16 ?_
          simp (disch := omega) only [f0, f1, f3, f4, g0, g1, g2, g3, g4, hST, a, wpY_message, forall_eq, Nat.le_refl, rl_10, rl_n10, nI_leI, nI_ltI, nI_eq, vp_in_nI, nI_clamp, nI_1, nI_add, rl_lt0, rl_0le, rl_eq0, rl_eq1, rl_eq2, rl_m1, rl_m8, rl_m100, rl_vb0, rl_vb1, true_implies, forall_const, not_true_eq_false, not_false_eq_true, false_implies, and_true, true_and, implies_true, and_self]
          refine ry_badS hp m16 ?_
          simp (disch := omega) only [f0, f1, f3, f4, g0, g1, g2, g3, g4, hST, a, forall_eq, Nat.le_refl, rl_10, rl_n10, nI_leI, nI_ltI, nI_eq, vp_in_nI, nI_clamp, nI_1, nI_add, rl_lt0, rl_0le, rl_eq0, rl_eq1, rl_eq2, rl_m1, rl_m8, rl_m100, rl_vb0, rl_vb1, true_implies, forall_const, not_true_eq_false, not_false_eq_true, false_implies, and_true, true_and, implies_true, and_self]
          exact rl_mk hR
      · have f0 : ¬ (3 : Int32) < 0 := by decide
        have f1 : (3 : Int32) ≤ 5 := by decide
        have f3 : ¬ (3 : Int32) < 1 := by decide
        have f4 : ¬ 4 < (3 : Int32) := by decide
        have g0 : ¬ (3 : Int32) = 0 := by decide
        have g1 : ¬ (3 : Int32) = 1 := by decide
        have g2 : ¬ (3 : Int32) = 2 := by decide
        have g3 : nI 3 = (3 : Int32) := rfl
        have g4 : ¬ (3 : Int32) = 4 := by decide
        by_cases a : st p = 0
        · simp only [wpX_message]
          refine rx_badS hp m16 ?_
          simp (disch := omega) only [f0, f1, f3, f4, g0, g1, g2, g3, g4, hST, a, wpY_message, forall_eq, Nat.le_refl, rl_10, rl_n10, nI_leI, nI_ltI, nI_eq, vp_in_nI, nI_clamp, nI_1, nI_add, rl_lt0, rl_0le, rl_eq0, rl_eq1, rl_eq2, rl_m1, rl_m8, rl_m100, rl_vb0, rl_vb1, true_implies, forall_const, not_true_eq_false, not_false_eq_true, false_implies, and_true, true_and, implies_true, and_self]
          refine ry_badS hp m16 ?_
          simp (disch := omega) only [f0, f1, f3, f4, g0, g1, g2, g3, g4, hST, a, forall_eq, Nat.le_refl, rl_10, rl_n10, nI_leI, nI_ltI, nI_eq, vp_in_nI, nI_clamp, nI_1, nI_add, rl_lt0, rl_0le, rl_eq0, rl_eq1, rl_eq2, rl_m1, rl_m8, rl_m100, rl_vb0, rl_vb1, true_implies, forall_const, not_true_eq_false, not_false_eq_true, false_implies, and_true, true_and, implies_true, and_self]
          exact rl_mk hR
        · simp only [wpX_message]
          refine rx_badS hp m16 ?_
          simp (disch := omega) only [f0, f1, f3, f4, g0, g1, g2, g3, g4, hST, a, wpY_message, forall_eq, Nat.le_refl, rl_10, rl_n10, nI_leI, nI_ltI, nI_eq, vp_in_nI, nI_clamp, nI_1, nI_add, rl_lt0, rl_0le, rl_eq0, rl_eq1, rl_eq2, rl_m1, rl_m8, rl_m100, rl_vb0, rl_vb1, true_implies, forall_const, not_true_eq_false, not_false_eq_true, false_implies, and_true, true_and, implies_true, and_self]
          refine ry_badS hp m16 ?_
          simp (disch := omega) only [f0, f1, f3, f4, g0, g1, g2, g3, g4, hST, a, forall_eq, Nat.le_refl, rl_10, rl_n10, nI_leI, nI_ltI, nI_eq, vp_in_nI, nI_clamp, nI_1, nI_add, rl_lt0, rl_0le, rl_eq0, rl_eq1, rl_eq2, rl_m1, rl_m8, rl_m100, rl_vb0, rl_vb1, true_implies, forall_const, not_true_eq_false, not_false_eq_true, false_implies, and_true, true_and, implies_true, and_self]
          exact rl_mk hR
      · have f0 : ¬ (4 : Int32) < 0 := by decide
        have f1 : (4 : Int32) ≤ 5 := by decide
        have f3 : ¬ (4 : Int32) < 1 := by decide
        have f4 : ¬ 4 < (4 : Int32) := by decide
        have g0 : ¬ (4 : Int32) = 0 := by decide
        have g1 : ¬ (4 : Int32) = 1 := by decide
        have g2 : ¬ (4 : Int32) = 2 := by decide
        have g3 : ¬ (4 : Int32) = 3 := by decide
        have g4 : nI 4 = (4 : Int32) := rfl
        by_cases a : st p = 0
        · simp only [wpX_message]
          refine rx_badS hp m16 ?_
          simp (disch := omega) only [f0, f1, f3, f4, g0, g1, g2, g3, g4, hST, a, wpY_message, forall_eq, Nat.le_refl, rl_10, rl_n10, nI_leI, nI_ltI, nI_eq, vp_in_nI, nI_clamp, nI_1, nI_add, rl_lt0, rl_0le, rl_eq0, rl_eq1, rl_eq2, rl_m1, rl_m8, rl_m100, rl_vb0, rl_vb1, true_implies, forall_const, not_true_eq_false, not_false_eq_true, false_implies, and_true, true_and, implies_true, and_self]
          refine ry_badS hp m16 ?_
          simp (disch := omega) only [f0, f1, f3, f4, g0, g1, g2, g3, g4, hST, a, forall_eq, Nat.le_refl, rl_10, rl_n10, nI_leI, nI_ltI, nI_eq, vp_in_nI, nI_clamp, nI_1, nI_add, rl_lt0, rl_0le, rl_eq0, rl_eq1, rl_eq2, rl_m1, rl_m8, rl_m100, rl_vb0, rl_vb1, true_implies, forall_const, not_true_eq_false, not_false_eq_true, false_implies, and_true, true_and, implies_true, and_self]
          exact rl_mk hR
        · simp only [wpX_message]
          refine rx_badS hp m16 ?_
          simp (disch := omega) only [f0, f1, f3, f4, g0, g1, g2, g3, g4, hST, a, wpY_message, forall_eq, Nat.le_refl, rl_10, rl_n10, nI_leI, nI_ltI, nI_eq, vp_in_nI, nI_clamp, nI_1, nI_add, rl_lt0, rl_0le, rl_eq0, rl_eq1, rl_eq2, rl_m1, rl_m8, rl_m100, rl_vb0, rl_vb1, true_implies, forall_const, not_true_eq_false, not_false_eq_true, false_implies, and_true, true_and, implies_true, and_self]
          refine ry_badS hp m16 ?_
          simp (disch := omega) only [f0, f1, f3, f4, g0, g1, g2, g3, g4, hST, a, forall_eq, Nat.le_refl, rl_10, rl_n10, nI_leI, nI_ltI, nI_eq, vp_in_nI, nI_clamp, nI_1, nI_add, rl_lt0, rl_0le, rl_eq0, rl_eq1, rl_eq2, rl_m1, rl_m8, rl_m100, rl_vb0, rl_vb1, true_implies, forall_const, not_true_eq_false, not_false_eq_true, false_implies, and_true, true_and, implies_true, and_self]
          exact rl_mk hR
      · have g5 : nI 5 = (5 : Int32) := rfl
        have f0 : ¬ (5 : Int32) < 0 := by decide
        have f1 : (5 : Int32) ≤ 5 := by decide
        have f3 : ¬ (5 : Int32) < 1 := by decide
        have f4 : 4 < (5 : Int32) := by decide
        have g0 : ¬ (5 : Int32) = 0 := by decide
        have g1 : ¬ (5 : Int32) = 1 := by decide
        have g2 : ¬ (5 : Int32) = 2 := by decide
        have g3 : ¬ (5 : Int32) = 3 := by decide
        have g4 : ¬ (5 : Int32) = 4 := by decide
        by_cases a : st p = 0
        · simp only [wpX_message]
          refine rx_badS hp m16 ?_
          simp (disch := omega) only [g5, f0, f1, f3, f4, g0, g1, g2, g3, g4, hST, a, wpY_message, forall_eq, Nat.le_refl, rl_10, rl_n10, nI_leI, nI_ltI, nI_eq, vp_in_nI, nI_clamp, nI_1, nI_add, rl_lt0, rl_0le, rl_eq0, rl_eq1, rl_eq2, rl_m1, rl_m8, rl_m100, rl_vb0, rl_vb1, true_implies, forall_const, not_true_eq_false, not_false_eq_true, false_implies, and_true, true_and, implies_true, and_self]
          refine ry_badS hp m16 ?_
          simp (disch := omega) only [g5, f0, f1, f3, f4, g0, g1, g2, g3, g4, hST, a, forall_eq, Nat.le_refl, rl_10, rl_n10, nI_leI, nI_ltI, nI_eq, vp_in_nI, nI_clamp, nI_1, nI_add, rl_lt0, rl_0le, rl_eq0, rl_eq1, rl_eq2, rl_m1, rl_m8, rl_m100, rl_vb0, rl_vb1, true_implies, forall_const, not_true_eq_false, not_false_eq_true, false_implies, and_true, true_and, implies_true, and_self]
          exact rl_mk hR
        · by_cases b : st p = 2
          · simp only [wpX_message]
            refine rx_badS hp m16 ?_
            simp (disch := omega) only [g5, f0, f1, f3, f4, g0, g1, g2, g3, g4, hST, a, b, show ¬ (2 : Nat) = 0 by decide, wpY_message, forall_eq, Nat.le_refl, rl_10, rl_n10, nI_leI, nI_ltI, nI_eq, vp_in_nI, nI_clamp, nI_1, nI_add, rl_lt0, rl_0le, rl_eq0, rl_eq1, rl_eq2, rl_m1, rl_m8, rl_m100, rl_vb0, rl_vb1, true_implies, forall_const, not_true_eq_false, not_false_eq_true, false_implies, and_true, true_and, implies_true, and_self]
            refine ry_badS hp m16 ?_
            simp (disch := omega) only [g5, f0, f1, f3, f4, g0, g1, g2, g3, g4, hST, a, b, show ¬ (2 : Nat) = 0 by decide, forall_eq, Nat.le_refl, rl_10, rl_n10, nI_leI, nI_ltI, nI_eq, vp_in_nI, nI_clamp, nI_1, nI_add, rl_lt0, rl_0le, rl_eq0, rl_eq1, rl_eq2, rl_m1, rl_m8, rl_m100, rl_vb0, rl_vb1, true_implies, forall_const, not_true_eq_false, not_false_eq_true, false_implies, and_true, true_and, implies_true, and_self]
            exact rl_mk hR
          · simp only [wpX_message]
            refine rx_badS hp m16 ?_
            simp (disch := omega) only [g5, f0, f1, f3, f4, g0, g1, g2, g3, g4, hST, a, b, show ¬ (2 : Nat) = 0 by decide, wpY_message, forall_eq, Nat.le_refl, rl_10, rl_n10, nI_leI, nI_ltI, nI_eq, vp_in_nI, nI_clamp, nI_1, nI_add, rl_lt0, rl_0le, rl_eq0, rl_eq1, rl_eq2, rl_m1, rl_m8, rl_m100, rl_vb0, rl_vb1, true_implies, forall_const, not_true_eq_false, not_false_eq_true, false_implies, and_true, true_and, implies_true, and_self]
            refine ry_badS hp m16 ?_
            simp (disch := omega) only [g5, f0, f1, f3, f4, g0, g1, g2, g3, g4, hST, a, b, show ¬ (2 : Nat) = 0 by decide, forall_eq, Nat.le_refl, rl_10, rl_n10, nI_leI, nI_ltI, nI_eq, vp_in_nI, nI_clamp, nI_1, nI_add, rl_lt0, rl_0le, rl_eq0, rl_eq1, rl_eq2, rl_m1, rl_m8, rl_m100, rl_vb0, rl_vb1, true_implies, forall_const, not_true_eq_false, not_false_eq_true, false_implies, and_true, true_and, implies_true, and_self]
            exact rl_mk hR
end
