section
/-- pointwise at most, below n -/
def rl_le (n : Nat) (a b : Nat → Nat) : Prop := ∀ p, p < n → a p ≤ b p
def rl_sum (a : Nat → Nat) : Nat → Nat
  | 0 => 0
  | n + 1 => rl_sum a n + a n
theorem rl_sum_le {a b : Nat → Nat} : ∀ n, rl_le n a b → rl_sum a n ≤ rl_sum b n := by
  intro n
  induction n with
  | zero => intro _; exact Nat.le_refl _
  | succ n ih =>
    intro h
    have h1 := ih (fun p hp => h p (by omega))
    have h2 := h n (by omega)
    show rl_sum a n + a n ≤ rl_sum b n + b n
    omega
theorem rl_sum_lt {a b : Nat → Nat} : ∀ n, rl_le n a b → ∀ p, p < n → a p < b p → rl_sum a n < rl_sum b n := by
  intro n
  induction n with
  | zero => intro _ p hp; omega
  | succ n ih =>
    intro h p hp hlt
    have h2 := h n (by omega)
    show rl_sum a n + a n < rl_sum b n + b n
    by_cases e : p = n
    · rw [e] at hlt
      have h1 := rl_sum_le (a := a) (b := b) n (fun q hq => h q (by omega))
      omega
    · have h1 := ih (fun q hq => h q (by omega)) p (by omega) hlt
      omega
theorem rl_sum_eq {a b : Nat → Nat} : ∀ n, (∀ p, p < n → a p = b p) → rl_sum a n = rl_sum b n := by
  intro n h
  have h1 := rl_sum_le (a := a) (b := b) n (fun p hp => by rw [h p hp]; exact Nat.le_refl _)
  have h2 := rl_sum_le (a := b) (b := a) n (fun p hp => by rw [h p hp]; exact Nat.le_refl _)
  omega
theorem rl_sum_c (c : Nat) : ∀ n, rl_sum (fun _ => c) n = n * c := by
  intro n
  induction n with
  | zero => show 0 = 0 * c; rw [Nat.zero_mul]
  | succ n ih =>
    show rl_sum (fun _ => c) n + c = (n + 1) * c
    rw [ih, Nat.succ_mul]
def rl_max (a b : Nat → Nat) : Nat → Nat := fun p => if a p ≤ b p then b p else a p
theorem rl_max_l (a b : Nat → Nat) (p : Nat) : a p ≤ rl_max a b p := by
  show a p ≤ if a p ≤ b p then b p else a p
  split <;> omega
theorem rl_max_r (a b : Nat → Nat) (p : Nat) : b p ≤ rl_max a b p := by
  show b p ≤ if a p ≤ b p then b p else a p
  split <;> omega
theorem rl_max_or (a b : Nat → Nat) (p : Nat) : rl_max a b p = a p ∨ rl_max a b p = b p := by
  show (if a p ≤ b p then b p else a p) = a p ∨ (if a p ≤ b p then b p else a p) = b p
  split
  · exact Or.inr rfl
  · exact Or.inl rfl
/-- the greatest choice below t that C takes -/
def rl_IsL (n : Nat) (t : Nat → Nat) (C : (Nat → Nat) → Prop) (L : Nat → Nat) : Prop :=
  rl_le n L t ∧ C L ∧ ∀ b, rl_le n b t → C b → rl_le n b L
theorem rl_greatest {n : Nat} {t : Nat → Nat} {C : (Nat → Nat) → Prop} (hex : ∃ b, rl_le n b t ∧ C b)
    (hmax : ∀ a b, rl_le n a t → rl_le n b t → C a → C b → C (rl_max a b)) : ∃ L, rl_IsL n t C L := by
  obtain ⟨b0, hb0, cb0⟩ := hex
  have hd : ∃ d, ∃ b, rl_le n b t ∧ C b ∧ rl_sum b n + d = rl_sum t n :=
    ⟨rl_sum t n - rl_sum b0 n, b0, hb0, cb0, by have := rl_sum_le n hb0; omega⟩
  obtain ⟨d, ⟨L, hL, cL, eL⟩, hmin⟩ := pk_least (fun d => ∃ b, rl_le n b t ∧ C b ∧ rl_sum b n + d = rl_sum t n) hd
  refine ⟨L, hL, cL, fun b hb cb p hp => ?_⟩
  apply Classical.byContradiction
  intro hn
  have hM : rl_le n (rl_max b L) t := by
    intro q hq
    rcases rl_max_or b L q with e | e
    · rw [e]; exact hb q hq
    · rw [e]; exact hL q hq
  have cM := hmax b L hb hL cb cL
  have lt : rl_sum L n < rl_sum (rl_max b L) n :=
    rl_sum_lt n (fun q _ => rl_max_r b L q) p hp (by have := rl_max_l b L p; omega)
  have le := rl_sum_le n hM
  exact hmin (rl_sum t n - rl_sum (rl_max b L) n) (by omega) ⟨rl_max b L, hM, cM, by omega⟩
theorem rl_IsL_uq {n : Nat} {t : Nat → Nat} {C : (Nat → Nat) → Prop} {L K : Nat → Nat} (h : rl_IsL n t C L)
    (hK : rl_le n K t) (cK : C K) (hLK : rl_le n L K) : ∀ p, p < n → K p = L p := by
  intro p hp
  have h1 := h.2.2 K hK cK p hp
  have h2 := hLK p hp
  omega
/-- the number that the digits of κ make, each below its own top -/
def rl_cd (t κ : Nat → Nat) : Nat → Nat
  | 0 => 0
  | n + 1 => rl_cd t κ n * (t n + 1) + κ n
theorem rl_cd_mono {t a b : Nat → Nat} : ∀ n, rl_le n a b → rl_cd t a n ≤ rl_cd t b n := by
  intro n
  induction n with
  | zero => intro _; exact Nat.le_refl _
  | succ n ih =>
    intro h
    exact Nat.add_le_add (Nat.mul_le_mul_right _ (ih (fun p hp => h p (by omega)))) (h n (by omega))
theorem rl_cd_eq {t a b : Nat → Nat} : ∀ n, (∀ p, p < n → a p = b p) → rl_cd t a n = rl_cd t b n := by
  intro n h
  exact Nat.le_antisymm (rl_cd_mono n (fun p hp => by rw [h p hp]; exact Nat.le_refl _)) (rl_cd_mono n (fun p hp => by rw [h p hp]; exact Nat.le_refl _))
theorem rl_dig {x y a b t : Nat} (ha : a ≤ t) (hb : b ≤ t) (h : x * (t + 1) + a = y * (t + 1) + b) : x = y ∧ a = b := by
  have hx : x = y := by
    rcases Nat.lt_trichotomy x y with l | e | l
    · exfalso
      have h1 : (x + 1) * (t + 1) ≤ y * (t + 1) := Nat.mul_le_mul_right (t + 1) l
      rw [Nat.succ_mul] at h1
      generalize x * (t + 1) = X at h h1
      generalize y * (t + 1) = Y at h h1
      omega
    · exact e
    · exfalso
      have h1 : (y + 1) * (t + 1) ≤ x * (t + 1) := Nat.mul_le_mul_right (t + 1) l
      rw [Nat.succ_mul] at h1
      generalize x * (t + 1) = X at h h1
      generalize y * (t + 1) = Y at h h1
      omega
  rw [hx] at h
  exact ⟨hx, by generalize y * (t + 1) = Y at h; omega⟩
theorem rl_cd_inj {t a b : Nat → Nat} : ∀ n, rl_le n a t → rl_le n b t → rl_cd t a n = rl_cd t b n → ∀ p, p < n → a p = b p := by
  intro n
  induction n with
  | zero => intro _ _ _ p hp; omega
  | succ n ih =>
    intro ha hb h p hp
    obtain ⟨h1, h2⟩ := rl_dig (ha n (by omega)) (hb n (by omega)) h
    by_cases e : p = n
    · rw [e]; exact h2
    · exact ih (fun q hq => ha q (by omega)) (fun q hq => hb q (by omega)) h1 p (by omega)
theorem rl_cd_lt {t a : Nat → Nat} : ∀ n, (∀ p, p < n → t p ≤ 8) → rl_le n a t → rl_cd t a n < 9 ^ n := by
  intro n
  induction n with
  | zero => intro _ _; show 0 < 9 ^ 0; omega
  | succ n ih =>
    intro ht h
    have h1 := ih (fun p hp => ht p (by omega)) (fun p hp => h p (by omega))
    have h2 := h n (by omega)
    have h3 := ht n (by omega)
    have h4 : (rl_cd t a n + 1) * (t n + 1) ≤ 9 ^ n * 9 := Nat.mul_le_mul h1 (by omega)
    rw [Nat.succ_mul] at h4
    show rl_cd t a n * (t n + 1) + a n < 9 ^ (n + 1)
    rw [Nat.pow_succ]
    generalize rl_cd t a n * (t n + 1) = X at h4 ⊢
    generalize 9 ^ n * 9 = Y at h4 ⊢
    omega
theorem rl_9 {n : Nat} (h : n ≤ 4) : 9 ^ n ≤ 6561 := by
  have : n = 0 ∨ n = 1 ∨ n = 2 ∨ n = 3 ∨ n = 4 := by omega
  rcases this with e | e | e | e | e <;> subst e <;> decide
/-- how many below n hold -/
def rl_cn (f : Nat → Bool) : Nat → Nat
  | 0 => 0
  | n + 1 => rl_cn f n + (if f n = true then 1 else 0)
theorem rl_cn_t {f : Nat → Bool} {n : Nat} (h : f n = true) : rl_cn f (n + 1) = rl_cn f n + 1 := by
  show rl_cn f n + (if f n = true then 1 else 0) = _
  rw [if_pos h]
theorem rl_cn_f {f : Nat → Bool} {n : Nat} (h : ¬ f n = true) : rl_cn f (n + 1) = rl_cn f n := by
  show rl_cn f n + (if f n = true then 1 else 0) = _
  rw [if_neg h]
  rfl
theorem rl_cn_le (f : Nat → Bool) : ∀ n, rl_cn f n ≤ n := by
  intro n
  induction n with
  | zero => exact Nat.le_refl _
  | succ n ih =>
    by_cases h : f n = true
    · rw [rl_cn_t h]; omega
    · rw [rl_cn_f h]; omega
theorem rl_cn_eq {f h : Nat → Bool} : ∀ n, (∀ i, i < n → (f i = true ↔ h i = true)) → rl_cn f n = rl_cn h n := by
  intro n
  induction n with
  | zero => intro _; rfl
  | succ n ih =>
    intro e
    have h1 := ih (fun i hi => e i (by omega))
    by_cases hf : f n = true
    · rw [rl_cn_t hf, rl_cn_t ((e n (by omega)).mp hf), h1]
    · rw [rl_cn_f hf, rl_cn_f (fun z => hf ((e n (by omega)).mpr z)), h1]
theorem rl_cn_0 {f : Nat → Bool} : ∀ n, (∀ i, i < n → ¬ f i = true) → rl_cn f n = 0 := by
  intro n
  induction n with
  | zero => intro _; rfl
  | succ n ih =>
    intro e
    rw [rl_cn_f (e n (by omega))]
    exact ih (fun i hi => e i (by omega))
theorem rl_cn_add (f : Nat → Bool) (a : Nat) : ∀ b, rl_cn f (a + b) = rl_cn f a + rl_cn (fun i => f (a + i)) b := by
  intro b
  induction b with
  | zero => rfl
  | succ b ih =>
    by_cases h : f (a + b) = true
    · have h1 : rl_cn f (a + (b + 1)) = rl_cn f (a + b) + 1 := rl_cn_t h
      have h2 : rl_cn (fun i => f (a + i)) (b + 1) = rl_cn (fun i => f (a + i)) b + 1 := rl_cn_t h
      omega
    · have h1 : rl_cn f (a + (b + 1)) = rl_cn f (a + b) := rl_cn_f h
      have h2 : rl_cn (fun i => f (a + i)) (b + 1) = rl_cn (fun i => f (a + i)) b := rl_cn_f h
      omega
theorem rl_cn_split (f h : Nat → Bool) : ∀ n, rl_cn (fun i => f i && h i) n + rl_cn (fun i => f i && !h i) n = rl_cn f n := by
  intro n
  induction n with
  | zero => rfl
  | succ n ih =>
    show rl_cn (fun i => f i && h i) n + (if (f n && h n) = true then 1 else 0) + (rl_cn (fun i => f i && !h i) n + (if (f n && !h n) = true then 1 else 0)) = rl_cn f n + (if f n = true then 1 else 0)
    cases f n <;> cases h n <;> simp <;> omega
/-- a rising list of all that hold has as many members as hold -/
theorem rl_cn_enum {f : Nat → Bool} {h : Nat → Nat} : ∀ N ct, (∀ j k, j < k → k < ct → h j < h k) → (∀ k, k < ct → h k < N) →
    (∀ i, i < N → (f i = true ↔ ∃ k, k < ct ∧ h k = i)) → rl_cn f N = ct := by
  intro N
  induction N with
  | zero =>
    intro ct _ hb _
    show 0 = ct
    by_cases e : ct = 0
    · exact e.symm
    · have := hb 0 (by omega); omega
  | succ N ih =>
    intro ct hm hb hf
    by_cases e : f N = true
    · obtain ⟨k, hk, ek⟩ := (hf N (by omega)).mp e
      have hk1 : k + 1 = ct := by
        by_cases l : k + 1 < ct
        · have h1 := hm k (k + 1) (by omega) l
          have h2 := hb (k + 1) l
          omega
        · omega
      rw [rl_cn_t e, ih k (fun i j hij hj => hm i j hij (by omega)) (fun j hj => by have := hm j k hj hk; omega) ?_]
      · exact hk1
      · intro i hi
        rw [hf i (by omega)]
        constructor
        · rintro ⟨j, hj, ej⟩
          refine ⟨j, ?_, ej⟩
          by_cases q : j = k
          · rw [q] at ej; omega
          · omega
        · rintro ⟨j, hj, ej⟩
          exact ⟨j, by omega, ej⟩
    · rw [rl_cn_f e]
      refine ih ct hm (fun k hk => ?_) (fun i hi => hf i (by omega))
      have h1 := hb k hk
      by_cases q : h k = N
      · exact absurd ((hf N (by omega)).mpr ⟨k, hk, q⟩) e
      · omega
/-- the blocks of a hundred -/
theorem rl_cn_blk (f : Nat → Bool) : ∀ p, rl_cn f (p * 100) = rl_sum (fun q => rl_cn (fun i => f (q * 100 + i)) 100) p := by
  intro p
  induction p with
  | zero => rw [Nat.zero_mul]; rfl
  | succ p ih =>
    rw [Nat.succ_mul, rl_cn_add, ih]
    rfl
end
section
/-- the component of p at place k: a stored number, or "now" behind them -/
def rl_G (ct : Nat → Nat) (g : Nat → Nat → Nat) (iv : Nat → Nat) (p k : Nat) : Nat := if k < ct p then g p k else iv p + 1
def rl_Sto (n c : Nat) (iv ct : Nat → Nat) (g : Nat → Nat → Nat) : Prop :=
  ∀ p, p < n → 1 ≤ ct p ∧ ct p ≤ c ∧ (∀ j k, j < k → k < ct p → g p j < g p k) ∧ (∀ k, k < ct p → g p k ≤ iv p) ∧ iv p ≤ 99
def rl_Msg (n m : Nat) (iv st sd rc si ri : Nat → Nat) : Prop :=
  (∀ s, st s ≤ 2 ∧ sd s < n ∧ rc s < n ∧ si s ≤ 99 ∧ ri s ≤ 99) ∧ ∀ s, s < m → st s = 2 → ri s ≤ iv (rc s)
def rl_Cons (m : Nat) (st sd rc si ri x : Nat → Nat) : Prop :=
  ∀ s, s < m → st s = 2 → ri s < x (rc s) → si s < x (sd s)
def rl_C (m : Nat) (iv ct : Nat → Nat) (g : Nat → Nat → Nat) (st sd rc si ri κ : Nat → Nat) : Prop :=
  rl_Cons m st sd rc si ri (fun p => rl_G ct g iv p (κ p))
def rl_W (n c m : Nat) (iv ct : Nat → Nat) (g : Nat → Nat → Nat) (st sd rc si ri : Nat → Nat) : Prop :=
  ((2 ≤ n ∧ n ≤ 4) ∧ (3 ≤ c ∧ c ≤ 8) ∧ (4 ≤ m ∧ m ≤ 16)) ∧ rl_Sto n c iv ct g ∧ rl_Msg n m iv st sd rc si ri ∧
    ∃ B : Nat → Nat, (∀ p, p < n → B p < ct p) ∧ rl_C m iv ct g st sd rc si ri B
/-- the top places for a set T -/
def rl_tp (ct : Nat → Nat) (T : Int32) (p : Nat) : Nat := if (T &&& ((1 : Int32) <<< (nI p &&& 31))) = 0 then ct p else ct p - 1
/-- one cell of a function changed -/
def rl_u (f : Nat → Nat) (k v : Nat) : Nat → Nat := fun j => if j = k then v else f j
theorem rl_us {f : Nat → Nat} {k v : Nat} : rl_u f k v k = v := if_pos rfl
theorem rl_un {f : Nat → Nat} {k v j : Nat} (h : j ≠ k) : rl_u f k v j = f j := if_neg h
section
variable {n c m : Nat} {iv ct st sd rc si ri : Nat → Nat} {g : Nat → Nat → Nat}
theorem rl_tp_le (ct : Nat → Nat) (T : Int32) (p : Nat) : rl_tp ct T p ≤ ct p := by
  unfold rl_tp
  split <;> omega
theorem rl_G_in {p k : Nat} (h : k < ct p) : rl_G ct g iv p k = g p k := if_pos h
theorem rl_G_now {p k : Nat} (h : ¬ k < ct p) : rl_G ct g iv p k = iv p + 1 := if_neg h
theorem rl_G_lt (hS : rl_Sto n c iv ct g) {p j k : Nat} (hp : p < n) (hj : j < k) (hk : k ≤ ct p) : rl_G ct g iv p j < rl_G ct g iv p k := by
  obtain ⟨_, _, h3, h4, _⟩ := hS p hp
  have hj' : j < ct p := by omega
  rw [rl_G_in hj']
  by_cases e : k < ct p
  · rw [rl_G_in e]; exact h3 j k hj e
  · rw [rl_G_now e]
    have := h4 j hj'
    omega
theorem rl_G_le (hS : rl_Sto n c iv ct g) {p j k : Nat} (hp : p < n) (hj : j ≤ k) (hk : k ≤ ct p) : rl_G ct g iv p j ≤ rl_G ct g iv p k := by
  by_cases e : j = k
  · rw [e]; exact Nat.le_refl _
  · exact Nat.le_of_lt (rl_G_lt hS hp (by omega) hk)
theorem rl_G_100 (hS : rl_Sto n c iv ct g) {p : Nat} (k : Nat) (hp : p < n) : rl_G ct g iv p k ≤ 100 := by
  obtain ⟨_, _, _, h4, h5⟩ := hS p hp
  by_cases e : k < ct p
  · rw [rl_G_in e]
    have := h4 k e
    omega
  · rw [rl_G_now e]; omega
/-- the place is told by the number -/
theorem rl_G_inj (hS : rl_Sto n c iv ct g) {p j k : Nat} (hp : p < n) (hj : j ≤ ct p) (hk : k ≤ ct p) (e : rl_G ct g iv p j = rl_G ct g iv p k) : j = k := by
  rcases Nat.lt_trichotomy j k with l | l | l
  · have := rl_G_lt hS hp l hk; omega
  · exact l
  · have := rl_G_lt hS hp l hj; omega
theorem rl_exL (hW : rl_W n c m iv ct g st sd rc si ri) (T : Int32) : ∃ L, rl_IsL n (rl_tp ct T) (rl_C m iv ct g st sd rc si ri) L := by
  obtain ⟨_, hS, hM, B, hB, cB⟩ := hW
  refine rl_greatest ⟨B, fun p hp => ?_, cB⟩ (fun a b ha hb ca cb => ?_)
  · have := hB p hp
    unfold rl_tp
    split <;> omega
  · intro s hs h2 hr
    have hr' : ri s < rl_G ct g iv (rc s) (rl_max a b (rc s)) := hr
    show si s < rl_G ct g iv (sd s) (rl_max a b (sd s))
    have hsd := (hM.1 s).2.1
    have hct : rl_max a b (sd s) ≤ ct (sd s) := by
      have h1 := ha (sd s) hsd
      have h2 := hb (sd s) hsd
      have h3 := rl_tp_le ct T (sd s)
      rcases rl_max_or a b (sd s) with e | e <;> rw [e] <;> omega
    rcases rl_max_or a b (rc s) with e | e
    · rw [e] at hr'
      exact Nat.lt_of_lt_of_le (ca s hs h2 hr') (rl_G_le hS hsd (rl_max_l a b (sd s)) hct)
    · rw [e] at hr'
      exact Nat.lt_of_lt_of_le (cb s hs h2 hr') (rl_G_le hS hsd (rl_max_r a b (sd s)) hct)
/-- an orphan above the line: the line's component of its receiver is stored, and not above its receipt -/
theorem rl_low (hS : rl_Sto n c iv ct g) (hM : rl_Msg n m iv st sd rc si ri) {T : Int32} {L κ : Nat → Nat}
    (hL : rl_IsL n (rl_tp ct T) (rl_C m iv ct g st sd rc si ri) L) (hκ : rl_le n κ (rl_tp ct T)) (hLκ : rl_le n L κ) {s : Nat} (hs : s < m) (h2 : st s = 2)
    (hsi : ¬ si s < rl_G ct g iv (sd s) (κ (sd s))) : L (rc s) < ct (rc s) ∧ g (rc s) (L (rc s)) ≤ ri s := by
  have hsd := (hM.1 s).2.1
  have hrc := (hM.1 s).2.2.1
  have hiv := hM.2 s hs h2
  have h3 := rl_tp_le ct T (sd s)
  have h4 := hκ (sd s) hsd
  have h5 : rl_G ct g iv (sd s) (L (sd s)) ≤ rl_G ct g iv (sd s) (κ (sd s)) := rl_G_le hS hsd (hLκ _ hsd) (by omega)
  have h6 : ¬ ri s < rl_G ct g iv (rc s) (L (rc s)) := by
    intro z
    have : si s < rl_G ct g iv (sd s) (L (sd s)) := hL.2.1 s hs h2 z
    omega
  by_cases e : L (rc s) < ct (rc s)
  · rw [rl_G_in e] at h6
    exact ⟨e, by omega⟩
  · rw [rl_G_now e] at h6
    omega
/-- the messages change: those that bind a choice are old ones, or are received now -/
theorem rl_W_msg (hW : rl_W n c m iv ct g st sd rc si ri) {st' sd' rc' si' ri' : Nat → Nat} (hM : rl_Msg n m iv st' sd' rc' si' ri')
    (h : ∀ s, s < m → st' s = 2 → (st s = 2 ∧ sd' s = sd s ∧ rc' s = rc s ∧ si' s = si s ∧ ri' s = ri s) ∨ iv (rc' s) ≤ ri' s) :
    rl_W n c m iv ct g st' sd' rc' si' ri' := by
  obtain ⟨hb, hS, _, B, hB, cB⟩ := hW
  refine ⟨hb, hS, hM, B, hB, fun s hs h2 hr => ?_⟩
  have hr' : ri' s < rl_G ct g iv (rc' s) (B (rc' s)) := hr
  show si' s < rl_G ct g iv (sd' s) (B (sd' s))
  rcases h s hs h2 with ⟨e1, e2, e3, e4, e5⟩ | e
  · rw [e3, e5] at hr'
    rw [e2, e4]
    exact cB s hs e1 hr'
  · exfalso
    have hrc := (hM.1 s).2.2.1
    have h3 := hB _ hrc
    rw [rl_G_in h3] at hr'
    have := (hS _ hrc).2.2.2.1 _ h3
    omega
theorem rl_W_send (hW : rl_W n c m iv ct g st sd rc si ri) {s p q : Nat} (hp : p < n) (hq : q < n) :
    rl_W n c m iv ct g (rl_u st s 1) (rl_u sd s p) (rl_u rc s q) (rl_u si s (iv p)) ri := by
  have hS := hW.2.1
  have hM := hW.2.2.1
  refine rl_W_msg hW ⟨fun j => ?_, fun j hj h2 => ?_⟩ (fun j hj h2 => ?_)
  · by_cases e : j = s
    · rw [e, rl_us, rl_us, rl_us, rl_us]
      exact ⟨by omega, hp, hq, (hS p hp).2.2.2.2, (hM.1 s).2.2.2.2⟩
    · rw [rl_un e, rl_un e, rl_un e, rl_un e]
      exact hM.1 j
  · by_cases e : j = s
    · rw [e, rl_us] at h2; omega
    · rw [rl_un e] at h2 ⊢
      exact hM.2 j hj h2
  · by_cases e : j = s
    · rw [e, rl_us] at h2; omega
    · rw [rl_un e] at h2
      rw [rl_un e, rl_un e, rl_un e]
      exact Or.inl ⟨h2, rfl, rfl, rfl, rfl⟩
theorem rl_W_deliver (hW : rl_W n c m iv ct g st sd rc si ri) {s : Nat} :
    rl_W n c m iv ct g (rl_u st s 2) sd rc si (rl_u ri s (iv (rc s))) := by
  have hS := hW.2.1
  have hM := hW.2.2.1
  refine rl_W_msg hW ⟨fun j => ?_, fun j hj h2 => ?_⟩ (fun j hj h2 => ?_)
  · by_cases e : j = s
    · rw [e, rl_us, rl_us]
      have h := hM.1 s
      exact ⟨by omega, h.2.1, h.2.2.1, h.2.2.2.1, (hS _ h.2.2.1).2.2.2.2⟩
    · rw [rl_un e, rl_un e]
      exact hM.1 j
  · by_cases e : j = s
    · rw [e, rl_us]; exact Nat.le_refl _
    · rw [rl_un e] at h2 ⊢
      exact hM.2 j hj h2
  · by_cases e : j = s
    · rw [e, rl_us]; exact Or.inr (Nat.le_refl _)
    · rw [rl_un e] at h2
      rw [rl_un e]
      exact Or.inl ⟨h2, rfl, rfl, rfl, rfl⟩
/-- some slots are emptied -/
theorem rl_W_drop (hW : rl_W n c m iv ct g st sd rc si ri) {st' : Nat → Nat} (h : ∀ s, st' s = st s ∨ st' s = 0) :
    rl_W n c m iv ct g st' sd rc si ri := by
  have hM := hW.2.2.1
  have h3 : ∀ j, st' j = 2 → st j = 2 := by
    intro j h2
    rcases h j with e | e <;> omega
  refine rl_W_msg hW ⟨fun j => ?_, fun j hj h2 => hM.2 j hj (h3 j h2)⟩ (fun j hj h2 => Or.inl ⟨h3 j h2, rfl, rfl, rfl, rfl⟩)
  have hj := hM.1 j
  refine ⟨?_, hj.2⟩
  rcases h j with e | e <;> omega
/-- a checkpoint is stored -/
def rl_gC (g : Nat → Nat → Nat) (p k v : Nat) : Nat → Nat → Nat := fun q j => if q = p ∧ j = k then v else g q j
theorem rl_gC_s {p k v : Nat} : rl_gC g p k v p k = v := if_pos ⟨rfl, rfl⟩
theorem rl_gC_n {p k v q j : Nat} (h : ¬ (q = p ∧ j = k)) : rl_gC g p k v q j = g q j := if_neg h
theorem rl_W_check (hW : rl_W n c m iv ct g st sd rc si ri) {p : Nat} (hp : p < n) (h99 : iv p < 99) (hc : ct p < c) :
    rl_W n c m (rl_u iv p (iv p + 1)) (rl_u ct p (ct p + 1)) (rl_gC g p (ct p) (iv p + 1)) st sd rc si ri := by
  obtain ⟨hb, hS, hM, B, hB, cB⟩ := hW
  have hge : ∀ q, iv q ≤ rl_u iv p (iv p + 1) q := by
    intro q
    by_cases e : q = p
    · rw [e, rl_us]; omega
    · rw [rl_un e]; exact Nat.le_refl _
  have hgB : ∀ q, q < n → rl_G (rl_u ct p (ct p + 1)) (rl_gC g p (ct p) (iv p + 1)) (rl_u iv p (iv p + 1)) q (B q) = rl_G ct g iv q (B q) := by
    intro q hq
    have h1 := hB q hq
    have h2 : B q < rl_u ct p (ct p + 1) q := by
      by_cases e : q = p
      · rw [e] at h1 ⊢; rw [rl_us]; omega
      · rw [rl_un e]; exact h1
    rw [rl_G_in h2, rl_G_in h1, rl_gC_n]
    rintro ⟨e1, e2⟩
    rw [e1] at h1 e2
    omega
  refine ⟨hb, fun q hq => ?_, ⟨hM.1, fun s hs h2 => Nat.le_trans (hM.2 s hs h2) (hge _)⟩, B, fun q hq => ?_, fun s hs h2 hr => ?_⟩
  · obtain ⟨h1, h2, h3, h4, h5⟩ := hS q hq
    by_cases e : q = p
    · rw [e] at h1 h2 h3 h4 h5 ⊢
      rw [rl_us, rl_us]
      refine ⟨by omega, by omega, fun j k hj hk => ?_, fun k hk => ?_, by omega⟩
      · have hj' : ¬ (p = p ∧ j = ct p) := fun z => by omega
        rw [rl_gC_n hj']
        by_cases ek : k = ct p
        · rw [ek, rl_gC_s]
          have := h4 j (by omega)
          omega
        · rw [rl_gC_n (fun z => ek z.2)]
          exact h3 j k hj (by omega)
      · by_cases ek : k = ct p
        · rw [ek, rl_gC_s]; exact Nat.le_refl _
        · rw [rl_gC_n (fun z => ek z.2)]
          have := h4 k (by omega)
          omega
    · rw [rl_un e, rl_un e]
      refine ⟨h1, h2, fun j k hj hk => ?_, fun k hk => ?_, h5⟩
      · rw [rl_gC_n (fun z => e z.1), rl_gC_n (fun z => e z.1)]
        exact h3 j k hj hk
      · rw [rl_gC_n (fun z => e z.1)]
        exact h4 k hk
  · have h1 := hB q hq
    by_cases e : q = p
    · rw [e] at h1 ⊢; rw [rl_us]; omega
    · rw [rl_un e]; exact h1
  · have h := hM.1 s
    have hr' : ri s < rl_G (rl_u ct p (ct p + 1)) (rl_gC g p (ct p) (iv p + 1)) (rl_u iv p (iv p + 1)) (rc s) (B (rc s)) := hr
    show si s < rl_G (rl_u ct p (ct p + 1)) (rl_gC g p (ct p) (iv p + 1)) (rl_u iv p (iv p + 1)) (sd s) (B (sd s))
    rw [hgB _ h.2.2.1] at hr'
    rw [hgB _ h.2.1]
    exact cB s hs h2 hr'
end
end
section
section
variable {n c m : Nat} {iv ct st sd rc si ri : Nat → Nat} {g : Nat → Nat → Nat}
/-- all roll back to a line -/
theorem rl_W_recover (hW : rl_W n c m iv ct g st sd rc si ri) {T : Int32} {L : Nat → Nat}
    (hL : rl_IsL n (rl_tp ct T) (rl_C m iv ct g st sd rc si ri) L) {iv' ct' st' : Nat → Nat}
    (h1 : ∀ p, p < n → (L p < ct p → iv' p = g p (L p) ∧ ct' p = L p + 1) ∧ (¬ L p < ct p → iv' p = iv p ∧ ct' p = ct p))
    (h2 : ∀ s, st' s ≤ 2) (h3 : ∀ s, s < m → st' s = 2 → st s = 2 ∧ ri s < rl_G ct g iv (rc s) (L (rc s))) :
    rl_W n c m iv' ct' g st' sd rc si ri := by
  obtain ⟨hb, hS, hM, B, hB, cB⟩ := hW
  have hBL : rl_le n B L := by
    refine hL.2.2 B (fun p hp => ?_) cB
    have := hB p hp
    unfold rl_tp
    split <;> omega
  have hB' : ∀ p, p < n → B p < ct' p := by
    intro p hp
    have e1 := hB p hp
    have e2 := hBL p hp
    by_cases e : L p < ct p
    · have := ((h1 p hp).1 e).2; omega
    · have := ((h1 p hp).2 e).2; omega
  have hG : ∀ p, p < n → rl_G ct' g iv' p (B p) = rl_G ct g iv p (B p) := by
    intro p hp
    rw [rl_G_in (hB' p hp), rl_G_in (hB p hp)]
  refine ⟨hb, fun p hp => ?_, ⟨fun s => ⟨h2 s, (hM.1 s).2⟩, fun s hs e2 => ?_⟩, B, hB', fun s hs e2 hr => ?_⟩
  · obtain ⟨a1, a2, a3, a4, a5⟩ := hS p hp
    by_cases e : L p < ct p
    · obtain ⟨b1, b2⟩ := (h1 p hp).1 e
      rw [b1, b2]
      refine ⟨by omega, by omega, fun j k hj hk => a3 j k hj (by omega), fun k hk => ?_, ?_⟩
      · by_cases q : k = L p
        · rw [q]; exact Nat.le_refl _
        · exact Nat.le_of_lt (a3 k (L p) (by omega) e)
      · have := a4 _ e; omega
    · obtain ⟨b1, b2⟩ := (h1 p hp).2 e
      rw [b1, b2]
      exact ⟨a1, a2, a3, a4, a5⟩
  · obtain ⟨d1, d2⟩ := h3 s hs e2
    have hrc := (hM.1 s).2.2.1
    by_cases e : L (rc s) < ct (rc s)
    · rw [rl_G_in e] at d2
      rw [((h1 _ hrc).1 e).1]
      omega
    · rw [rl_G_now e] at d2
      rw [((h1 _ hrc).2 e).1]
      omega
  · have h := hM.1 s
    have hr' : ri s < rl_G ct' g iv' (rc s) (B (rc s)) := hr
    show si s < rl_G ct' g iv' (sd s) (B (sd s))
    rw [hG _ h.2.2.1] at hr'
    rw [hG _ h.2.1]
    exact cB s hs (h3 s hs e2).1 hr'
/-- what no line needs is dropped: the line of all stays -/
theorem rl_W_reclaim (hW : rl_W n c m iv ct g st sd rc si ri) {T : Int32} {L : Nat → Nat}
    (hL : rl_IsL n (rl_tp ct T) (rl_C m iv ct g st sd rc si ri) L) (hT : ∀ p, p < n → L p < ct p) {ct' : Nat → Nat} {g' f : Nat → Nat → Nat}
    (hc : ∀ p, p < n → ct' p ≤ ct p) (hf : ∀ p, p < n → ∀ j, j < ct' p → f p j < ct p ∧ g' p j = g p (f p j))
    (hm : ∀ p, p < n → ∀ j k, j < k → k < ct' p → f p j < f p k) (hx : ∀ p, p < n → ∃ j, j < ct' p ∧ f p j = L p) :
    rl_W n c m iv ct' g' st sd rc si ri := by
  obtain ⟨hb, hS, hM, _⟩ := hW
  have hx' : ∀ p, ∃ j, p < n → (j < ct' p ∧ f p j = L p) := by
    intro p
    by_cases e : p < n
    · obtain ⟨j, hj⟩ := hx p e
      exact ⟨j, fun _ => hj⟩
    · exact ⟨0, fun z => absurd z e⟩
  obtain ⟨B, hB⟩ := Classical.axiomOfChoice hx'
  have hG : ∀ p, p < n → rl_G ct' g' iv p (B p) = rl_G ct g iv p (L p) := by
    intro p hp
    obtain ⟨e1, e2⟩ := hB p hp
    rw [rl_G_in e1, rl_G_in (hT p hp), (hf p hp _ e1).2, e2]
  refine ⟨hb, fun p hp => ?_, hM, B, fun p hp => (hB p hp).1, fun s hs e2 hr => ?_⟩
  · obtain ⟨a1, a2, a3, a4, a5⟩ := hS p hp
    obtain ⟨j0, hj0, _⟩ := hx p hp
    have h0 := hc p hp
    refine ⟨by omega, by omega, fun j k hj hk => ?_, fun k hk => ?_, a5⟩
    · rw [(hf p hp j (by omega)).2, (hf p hp k hk).2]
      exact a3 _ _ (hm p hp j k hj hk) (hf p hp k hk).1
    · rw [(hf p hp k hk).2]
      exact a4 _ (hf p hp k hk).1
  · have h := hM.1 s
    have hr' : ri s < rl_G ct' g' iv (rc s) (B (rc s)) := hr
    show si s < rl_G ct' g' iv (sd s) (B (sd s))
    rw [hG _ h.2.2.1] at hr'
    rw [hG _ h.2.1]
    exact hL.2.1 s hs e2 hr'
end
/-- sets as sums of 1 << p, by or and by plus -/
def rl_or (c : Nat → Bool) : Nat → Int32
  | 0 => 0
  | i + 1 => if c i = true then rl_or c i ||| ((1 : Int32) <<< (nI i &&& 31)) else rl_or c i
def rl_ad (c : Nat → Bool) : Nat → Int32
  | 0 => 0
  | i + 1 => if c i = true then rl_ad c i + ((1 : Int32) <<< (nI i &&& 31)) else rl_ad c i
theorem rl_or_t {c : Nat → Bool} {i : Nat} (h : c i = true) : rl_or c (i + 1) = rl_or c i ||| ((1 : Int32) <<< (nI i &&& 31)) := if_pos h
theorem rl_or_f {c : Nat → Bool} {i : Nat} (h : ¬ c i = true) : rl_or c (i + 1) = rl_or c i := if_neg h
theorem rl_ad_t {c : Nat → Bool} {i : Nat} (h : c i = true) : rl_ad c (i + 1) = rl_ad c i + ((1 : Int32) <<< (nI i &&& 31)) := if_pos h
theorem rl_ad_f {c : Nat → Bool} {i : Nat} (h : ¬ c i = true) : rl_ad c (i + 1) = rl_ad c i := if_neg h
/-- the set of four flags -/
def rl_s4 (a b d e : Bool) : Int32 := nI ((if a then 1 else 0) + (if b then 2 else 0) + (if d then 4 else 0) + (if e then 8 else 0))
theorem rl_d0 : ∀ a : Bool, (if a = true then (0 : Int32) ||| ((1 : Int32) <<< (nI 0 &&& 31)) else 0) = rl_s4 a false false false ∧ (if a = true then (0 : Int32) + ((1 : Int32) <<< (nI 0 &&& 31)) else 0) = rl_s4 a false false false := by decide +kernel
theorem rl_d1 : ∀ a b : Bool, (if b = true then rl_s4 a false false false ||| ((1 : Int32) <<< (nI 1 &&& 31)) else rl_s4 a false false false) = rl_s4 a b false false ∧ (if b = true then rl_s4 a false false false + ((1 : Int32) <<< (nI 1 &&& 31)) else rl_s4 a false false false) = rl_s4 a b false false := by decide +kernel
theorem rl_d2 : ∀ a b d : Bool, (if d = true then rl_s4 a b false false ||| ((1 : Int32) <<< (nI 2 &&& 31)) else rl_s4 a b false false) = rl_s4 a b d false ∧ (if d = true then rl_s4 a b false false + ((1 : Int32) <<< (nI 2 &&& 31)) else rl_s4 a b false false) = rl_s4 a b d false := by decide +kernel
theorem rl_d3 : ∀ a b d e : Bool, (if e = true then rl_s4 a b d false ||| ((1 : Int32) <<< (nI 3 &&& 31)) else rl_s4 a b d false) = rl_s4 a b d e ∧ (if e = true then rl_s4 a b d false + ((1 : Int32) <<< (nI 3 &&& 31)) else rl_s4 a b d false) = rl_s4 a b d e := by decide +kernel
/-- the flags below i -/
def rl_fl (c : Nat → Bool) (i p : Nat) : Bool := c p && decide (p < i)
theorem rl_o1 (c : Nat → Bool) : rl_or c 1 = rl_s4 (c 0) false false false ∧ rl_ad c 1 = rl_s4 (c 0) false false false := rl_d0 (c 0)
theorem rl_o2 (c : Nat → Bool) : rl_or c 2 = rl_s4 (c 0) (c 1) false false ∧ rl_ad c 2 = rl_s4 (c 0) (c 1) false false := by
  have h := rl_d1 (c 0) (c 1)
  rw [← (rl_o1 c).1] at h
  refine ⟨h.1, ?_⟩
  have h := rl_d1 (c 0) (c 1)
  rw [← (rl_o1 c).2] at h
  exact h.2
theorem rl_o3 (c : Nat → Bool) : rl_or c 3 = rl_s4 (c 0) (c 1) (c 2) false ∧ rl_ad c 3 = rl_s4 (c 0) (c 1) (c 2) false := by
  have h := rl_d2 (c 0) (c 1) (c 2)
  rw [← (rl_o2 c).1] at h
  refine ⟨h.1, ?_⟩
  have h := rl_d2 (c 0) (c 1) (c 2)
  rw [← (rl_o2 c).2] at h
  exact h.2
theorem rl_o4 (c : Nat → Bool) : rl_or c 4 = rl_s4 (c 0) (c 1) (c 2) (c 3) ∧ rl_ad c 4 = rl_s4 (c 0) (c 1) (c 2) (c 3) := by
  have h := rl_d3 (c 0) (c 1) (c 2) (c 3)
  rw [← (rl_o3 c).1] at h
  refine ⟨h.1, ?_⟩
  have h := rl_d3 (c 0) (c 1) (c 2) (c 3)
  rw [← (rl_o3 c).2] at h
  exact h.2
theorem rl_orad (c : Nat → Bool) {n : Nat} (h2 : 2 ≤ n) (h4 : n ≤ 4) : rl_or c n = rl_ad c n := by
  have : n = 2 ∨ n = 3 ∨ n = 4 := by omega
  rcases this with e | e | e <;> subst e
  · rw [(rl_o2 c).1, (rl_o2 c).2]
  · rw [(rl_o3 c).1, (rl_o3 c).2]
  · rw [(rl_o4 c).1, (rl_o4 c).2]
theorem rl_b0 : ∀ b d e : Bool, ¬ (rl_s4 true b d e &&& ((1 : Int32) <<< (nI 0 &&& 31))) = 0 := by decide +kernel
theorem rl_b1 : ∀ b d e : Bool, ¬ (rl_s4 b true d e &&& ((1 : Int32) <<< (nI 1 &&& 31))) = 0 := by decide +kernel
theorem rl_b2 : ∀ b d e : Bool, ¬ (rl_s4 b d true e &&& ((1 : Int32) <<< (nI 2 &&& 31))) = 0 := by decide +kernel
theorem rl_b3 : ∀ b d e : Bool, ¬ (rl_s4 b d e true &&& ((1 : Int32) <<< (nI 3 &&& 31))) = 0 := by decide +kernel
theorem rl_bit (c : Nat → Bool) {n p : Nat} (h2 : 2 ≤ n) (h4 : n ≤ 4) (hp : p < n) (h : c p = true) : ¬ (rl_or c n &&& ((1 : Int32) <<< (nI p &&& 31))) = 0 := by
  have e1 : n = 2 ∨ n = 3 ∨ n = 4 := by omega
  have e2 : p = 0 ∨ p = 1 ∨ p = 2 ∨ p = 3 := by omega
  rcases e2 with e | e | e | e <;> subst e
  · rcases e1 with e | e | e <;> subst e
    · rw [(rl_o2 c).1, h]; exact rl_b0 _ _ _
    · rw [(rl_o3 c).1, h]; exact rl_b0 _ _ _
    · rw [(rl_o4 c).1, h]; exact rl_b0 _ _ _
  · rcases e1 with e | e | e <;> subst e
    · rw [(rl_o2 c).1, h]; exact rl_b1 _ _ _
    · rw [(rl_o3 c).1, h]; exact rl_b1 _ _ _
    · rw [(rl_o4 c).1, h]; exact rl_b1 _ _ _
  · rcases e1 with e | e | e <;> subst e
    · omega
    · rw [(rl_o3 c).1, h]; exact rl_b2 _ _ _
    · rw [(rl_o4 c).1, h]; exact rl_b2 _ _ _
  · rcases e1 with e | e | e <;> subst e
    · omega
    · omega
    · rw [(rl_o4 c).1, h]; exact rl_b3 _ _ _
theorem rl_all2 : ∀ a b : Bool, nI 3 &&& rl_s4 a b false false = rl_s4 a b false false := by decide +kernel
theorem rl_all3 : ∀ a b d : Bool, nI 7 &&& rl_s4 a b d false = rl_s4 a b d false := by decide +kernel
theorem rl_all4 : ∀ a b d e : Bool, nI 15 &&& rl_s4 a b d e = rl_s4 a b d e := by decide +kernel
theorem rl_allb : ∀ n p : Fin 5, 2 ≤ n.val → p.val < n.val → ¬ (nI (2 ^ n.val - 1) &&& ((1 : Int32) <<< (nI p.val &&& 31))) = 0 := by decide +kernel
/-- the set of all holds those that are down, and every process -/
theorem rl_all (c : Nat → Bool) {n : Nat} (h2 : 2 ≤ n) (h4 : n ≤ 4) : nI (2 ^ n - 1) &&& rl_or c n = rl_or c n := by
  have : n = 2 ∨ n = 3 ∨ n = 4 := by omega
  rcases this with e | e | e <;> subst e
  · rw [(rl_o2 c).1]; exact rl_all2 _ _
  · rw [(rl_o3 c).1]; exact rl_all3 _ _ _
  · rw [(rl_o4 c).1]; exact rl_all4 _ _ _ _
theorem rl_allp {n p : Nat} (h2 : 2 ≤ n) (h4 : n ≤ 4) (hp : p < n) : ¬ (nI (2 ^ n - 1) &&& ((1 : Int32) <<< (nI p &&& 31))) = 0 :=
  rl_allb ⟨n, by omega⟩ ⟨p, by omega⟩ h2 hp
theorem rl_1n {n : Nat} (h2 : 2 ≤ n) (h4 : n ≤ 4) : (1 : Int32) <<< (nI n &&& 31) = nI (2 ^ n) := by
  have : n = 2 ∨ n = 3 ∨ n = 4 := by omega
  rcases this with e | e | e <;> subst e <;> decide +kernel
end
section
/-- the greatest place below N that holds -/
theorem rl_last (P : Nat → Prop) : ∀ N, (∃ k, k < N ∧ P k) → ∃ k, k < N ∧ P k ∧ ∀ j, j < N → P j → j ≤ k := by
  intro N
  induction N with
  | zero => rintro ⟨k, hk, _⟩; omega
  | succ N ih =>
    rintro ⟨k, hk, pk⟩
    by_cases e : P N
    · exact ⟨N, by omega, e, fun j hj _ => by omega⟩
    · have hk' : k < N := by
        by_cases q : k = N
        · rw [q] at pk; exact absurd pk e
        · omega
      obtain ⟨i, hi, pi, hm⟩ := ih ⟨k, hk', pk⟩
      refine ⟨i, by omega, pi, fun j hj pj => ?_⟩
      by_cases q : j = N
      · rw [q] at pj; exact absurd pj e
      · exact hm j (by omega) pj
theorem rl_dec_pos {t κ : Nat → Nat} {i : Nat} (h : 0 < κ i) : rl_cd t (rl_u κ i (κ i - 1)) (i + 1) + 1 = rl_cd t κ (i + 1) := by
  have h1 : rl_cd t (rl_u κ i (κ i - 1)) i = rl_cd t κ i := rl_cd_eq i (fun p hp => rl_un (by omega))
  show rl_cd t (rl_u κ i (κ i - 1)) i * (t i + 1) + rl_u κ i (κ i - 1) i + 1 = rl_cd t κ i * (t i + 1) + κ i
  rw [h1, rl_us]
  omega
theorem rl_dec_zero {t κ κ' : Nat → Nat} {i : Nat} (h : κ i = 0) (ht : κ' i = t i) (hc : rl_cd t κ' i + 1 = rl_cd t κ i) : rl_cd t κ' (i + 1) + 1 = rl_cd t κ (i + 1) := by
  show rl_cd t κ' i * (t i + 1) + κ' i + 1 = rl_cd t κ i * (t i + 1) + κ i
  rw [← hc, Nat.succ_mul, h, ht]
  omega
theorem rl_cd_pos0 {t κ : Nat → Nat} {i : Nat} (h : κ i = 0) (hc : 0 < rl_cd t κ (i + 1)) : 0 < rl_cd t κ i := by
  have hc' : 0 < rl_cd t κ i * (t i + 1) + κ i := hc
  by_cases e : rl_cd t κ i = 0
  · rw [e, h, Nat.zero_mul] at hc'; omega
  · omega
section
variable {n c m : Nat} {iv ct st sd rc si ri : Nat → Nat} {g : Nat → Nat → Nat}
theorem rl_C_ext (hM : rl_Msg n m iv st sd rc si ri) {a b : Nat → Nat} (h : ∀ p, p < n → a p = b p) (ha : rl_C m iv ct g st sd rc si ri a) : rl_C m iv ct g st sd rc si ri b := by
  intro s hs h2 hr
  have hs' := hM.1 s
  have hr' : ri s < rl_G ct g iv (rc s) (b (rc s)) := hr
  show si s < rl_G ct g iv (sd s) (b (sd s))
  rw [← h _ hs'.2.2.1] at hr'
  rw [← h _ hs'.2.1]
  exact ha s hs h2 hr'
/-- an orphan lowers its receiver -/
theorem rl_lowk (hS : rl_Sto n c iv ct g) (hM : rl_Msg n m iv st sd rc si ri) {T : Int32} {L κ : Nat → Nat}
    (hL : rl_IsL n (rl_tp ct T) (rl_C m iv ct g st sd rc si ri) L) (hκ : rl_le n κ (rl_tp ct T)) (hLκ : rl_le n L κ) {s : Nat} (hs : s < m) (h2 : st s = 2)
    (hr : ri s < rl_G ct g iv (rc s) (κ (rc s))) (hsi : ¬ si s < rl_G ct g iv (sd s) (κ (sd s))) :
    ∃ k, k < ct (rc s) ∧ g (rc s) k ≤ ri s ∧ (∀ j, j < ct (rc s) → g (rc s) j ≤ ri s → j ≤ k) ∧
      rl_le n (rl_u κ (rc s) k) (rl_tp ct T) ∧ rl_le n L (rl_u κ (rc s) k) ∧ rl_sum (rl_u κ (rc s) k) n < rl_sum κ n := by
  obtain ⟨h3, h4⟩ := rl_low hS hM hL hκ hLκ hs h2 hsi
  obtain ⟨k, hk, hg, hm⟩ := rl_last (fun j => g (rc s) j ≤ ri s) (ct (rc s)) ⟨L (rc s), h3, h4⟩
  have hrc := (hM.1 s).2.2.1
  have hkt := hκ (rc s) hrc
  have htp := rl_tp_le ct T (rc s)
  have hlt : k < κ (rc s) := by
    by_cases e : k < κ (rc s)
    · exact e
    · exfalso
      have h5 : rl_G ct g iv (rc s) (κ (rc s)) ≤ rl_G ct g iv (rc s) k := rl_G_le hS hrc (by omega) (by omega)
      rw [rl_G_in hk] at h5
      have hg' : g (rc s) k ≤ ri s := hg
      omega
  have hle : rl_le n (rl_u κ (rc s) k) κ := by
    intro p hp
    by_cases e : p = rc s
    · rw [e, rl_us]; omega
    · rw [rl_un e]; exact Nat.le_refl _
  refine ⟨k, hk, hg, hm, fun p hp => Nat.le_trans (hle p hp) (hκ p hp), fun p hp => ?_, rl_sum_lt n hle (rc s) hrc (by rw [rl_us]; exact hlt)⟩
  by_cases e : p = rc s
  · rw [e, rl_us]; exact hm _ h3 h4
  · rw [rl_un e]; exact hLκ p hp
theorem rl_Y_exit {T : Int32} {L κ : Nat → Nat} (hL : rl_IsL n (rl_tp ct T) (rl_C m iv ct g st sd rc si ri) L) (hκ : rl_le n κ (rl_tp ct T))
    (hc : rl_cd (rl_tp ct T) L n ≤ rl_cd (rl_tp ct T) κ n) (hC : rl_C m iv ct g st sd rc si ri κ) : ∀ p, p < n → κ p = L p := by
  have h1 := hL.2.2 κ hκ hC
  have h2 := rl_cd_mono (t := rl_tp ct T) n h1
  exact rl_cd_inj n hκ hL.1 (Nat.le_antisymm h2 hc)
theorem rl_Y_step (hM : rl_Msg n m iv st sd rc si ri) {T : Int32} {L κ : Nat → Nat} (hL : rl_IsL n (rl_tp ct T) (rl_C m iv ct g st sd rc si ri) L)
    (hκ : rl_le n κ (rl_tp ct T)) (hc : rl_cd (rl_tp ct T) L n ≤ rl_cd (rl_tp ct T) κ n) (hC : ¬ rl_C m iv ct g st sd rc si ri κ) :
    rl_cd (rl_tp ct T) L n < rl_cd (rl_tp ct T) κ n := by
  by_cases e : rl_cd (rl_tp ct T) L n = rl_cd (rl_tp ct T) κ n
  · exact absurd (rl_C_ext hM (rl_cd_inj n hL.1 hκ e) hL.2.1) hC
  · omega
/-- nothing is stored between two neighbours -/
theorem rl_gap (hS : rl_Sto n c iv ct g) {p k i : Nat} (hp : p < n) (hk : k < ct p) (h1 : rl_G ct g iv p k < i) (h2 : i < rl_G ct g iv p (k + 1)) : ¬ ∃ j, j < ct p ∧ g p j = i := by
  rintro ⟨j, hj, e⟩
  have e' : rl_G ct g iv p j = i := by rw [rl_G_in hj, e]
  by_cases l : j ≤ k
  · have := rl_G_le hS hp l (by omega)
    omega
  · have := rl_G_le hS hp (j := k + 1) (k := j) (by omega) (by omega)
    omega
theorem rl_gap0 (hS : rl_Sto n c iv ct g) {p i : Nat} (hp : p < n) (h2 : i < rl_G ct g iv p 0) : ¬ ∃ j, j < ct p ∧ g p j = i := by
  rintro ⟨j, hj, e⟩
  have e' : rl_G ct g iv p j = i := by rw [rl_G_in hj, e]
  have := rl_G_le hS hp (j := 0) (k := j) (by omega) (by omega)
  omega
end
end
section
/-- f lists, rising, the places below k that are needed -/
def rl_Sub (nd : Nat → Bool) (k kept : Nat) (f : Nat → Nat) : Prop :=
  (∀ j, j < kept → f j < k ∧ nd (f j) = true) ∧ (∀ i j, i < j → j < kept → f i < f j) ∧ (∀ i, i < k → nd i = true → ∃ j, j < kept ∧ f j = i) ∧ kept ≤ k
theorem rl_Sub_0 (nd : Nat → Bool) (f : Nat → Nat) : rl_Sub nd 0 0 f :=
  ⟨fun j hj => by omega, fun i j _ hj => by omega, fun i hi => by omega, Nat.le_refl _⟩
theorem rl_Sub_t {nd : Nat → Bool} {k kept : Nat} {f : Nat → Nat} (h : rl_Sub nd k kept f) (e : nd k = true) : rl_Sub nd (k + 1) (kept + 1) (rl_u f kept k) := by
  obtain ⟨h1, h2, h3, h4⟩ := h
  refine ⟨fun j hj => ?_, fun i j hij hj => ?_, fun i hi hn => ?_, by omega⟩
  · by_cases q : j = kept
    · rw [q, rl_us]; exact ⟨by omega, e⟩
    · rw [rl_un q]
      have := h1 j (by omega)
      exact ⟨by omega, this.2⟩
  · have hi : i ≠ kept := by omega
    rw [rl_un hi]
    by_cases q : j = kept
    · rw [q, rl_us]; exact (h1 i (by omega)).1
    · rw [rl_un q]; exact h2 i j hij (by omega)
  · by_cases q : i = k
    · exact ⟨kept, by omega, by rw [rl_us, q]⟩
    · obtain ⟨j, hj, ej⟩ := h3 i (by omega) hn
      refine ⟨j, by omega, ?_⟩
      rw [rl_un (by omega)]
      exact ej
theorem rl_Sub_f {nd : Nat → Bool} {k kept : Nat} {f : Nat → Nat} (h : rl_Sub nd k kept f) (e : ¬ nd k = true) : rl_Sub nd (k + 1) kept f := by
  obtain ⟨h1, h2, h3, h4⟩ := h
  refine ⟨fun j hj => ?_, h2, fun i hi hn => ?_, by omega⟩
  · have := h1 j hj
    exact ⟨by omega, this.2⟩
  · by_cases q : i = k
    · rw [q] at hn; exact absurd hn e
    · exact h3 i (by omega) hn
/-- place k of p is in a line of a set below J that holds D -/
def rl_Nd (D : Int32) (Ls : Int32 → Nat → Nat) (J p k : Nat) : Prop := ∃ j, j < J ∧ (nI j &&& D) = D ∧ Ls (nI j) p = k
theorem rl_Nd_0 {D : Int32} {Ls : Int32 → Nat → Nat} {p k : Nat} : ¬ rl_Nd D Ls 0 p k := by
  rintro ⟨j, hj, _⟩; omega
theorem rl_Nd_t {D : Int32} {Ls : Int32 → Nat → Nat} {J p k : Nat} (h : (nI J &&& D) = D) : rl_Nd D Ls (J + 1) p k ↔ rl_Nd D Ls J p k ∨ Ls (nI J) p = k := by
  constructor
  · rintro ⟨j, hj, h1, h2⟩
    by_cases e : j = J
    · rw [e] at h2; exact Or.inr h2
    · exact Or.inl ⟨j, by omega, h1, h2⟩
  · rintro (⟨j, hj, h1, h2⟩ | h2)
    · exact ⟨j, by omega, h1, h2⟩
    · exact ⟨J, by omega, h, h2⟩
theorem rl_Nd_f {D : Int32} {Ls : Int32 → Nat → Nat} {J p k : Nat} (h : ¬ (nI J &&& D) = D) : rl_Nd D Ls (J + 1) p k ↔ rl_Nd D Ls J p k := by
  constructor
  · rintro ⟨j, hj, h1, h2⟩
    by_cases e : j = J
    · rw [e] at h1; exact absurd h1 h
    · exact ⟨j, by omega, h1, h2⟩
  · rintro ⟨j, hj, h1, h2⟩
    exact ⟨j, by omega, h1, h2⟩
/-- the receipt of slot s lies below the lines (x: their numbers) of all sets below J that hold D -/
def rl_Se (D : Int32) (x : Int32 → Nat → Nat) (st rc ri : Nat → Nat) (J s : Nat) : Prop := st s = 2 ∧ ∀ j, j < J → (nI j &&& D) = D → ri s < x (nI j) (rc s)
theorem rl_Se_0 {D : Int32} {x : Int32 → Nat → Nat} {st rc ri : Nat → Nat} {s : Nat} : rl_Se D x st rc ri 0 s ↔ st s = 2 :=
  ⟨fun h => h.1, fun h => ⟨h, fun j hj => by omega⟩⟩
theorem rl_Se_t {D : Int32} {x : Int32 → Nat → Nat} {st rc ri : Nat → Nat} {J s : Nat} (h : (nI J &&& D) = D) :
    rl_Se D x st rc ri (J + 1) s ↔ rl_Se D x st rc ri J s ∧ ri s < x (nI J) (rc s) := by
  constructor
  · rintro ⟨h1, h2⟩
    exact ⟨⟨h1, fun j hj hd => h2 j (by omega) hd⟩, h2 J (by omega) h⟩
  · rintro ⟨⟨h1, h2⟩, h3⟩
    refine ⟨h1, fun j hj hd => ?_⟩
    by_cases e : j = J
    · rw [e]; exact h3
    · exact h2 j (by omega) hd
theorem rl_Se_f {D : Int32} {x : Int32 → Nat → Nat} {st rc ri : Nat → Nat} {J s : Nat} (h : ¬ (nI J &&& D) = D) :
    rl_Se D x st rc ri (J + 1) s ↔ rl_Se D x st rc ri J s := by
  constructor
  · rintro ⟨h1, h2⟩
    exact ⟨h1, fun j hj hd => h2 j (by omega) hd⟩
  · rintro ⟨h1, h2⟩
    refine ⟨h1, fun j hj hd => ?_⟩
    by_cases e : j = J
    · rw [e] at hd; exact absurd hd h
    · exact h2 j (by omega) hd
end
section
/-- the first i cells are a's, the others b's -/
def rl_mix (i : Nat) (a b : Nat → Int32) : Nat → Int32 := fun q => if q < i then a q else b q
theorem rl_mix_lt {i q : Nat} {a b : Nat → Int32} (h : q < i) : rl_mix i a b q = a q := if_pos h
theorem rl_mix_ge {i q : Nat} {a b : Nat → Int32} (h : i ≤ q) : rl_mix i a b q = b q := if_neg (by omega)
theorem rl_mix_0 (a b : Nat → Int32) : rl_mix 0 a b = b := funext fun q => rl_mix_ge (by omega)
theorem rl_mix_s {i : Nat} {a b : Nat → Int32} {x : Int32} (h : x = a i) : upd (rl_mix i a b) i x = rl_mix (i + 1) a b := by
  funext q
  by_cases e : q = i
  · rw [e, pk_us, rl_mix_lt (by omega), h]
  · rw [pk_un e]
    by_cases l : q < i
    · rw [rl_mix_lt l, rl_mix_lt (by omega)]
    · rw [rl_mix_ge (by omega), rl_mix_ge (by omega)]
theorem rl_mix_k {i : Nat} {a b : Nat → Int32} (h : a i = b i) : rl_mix i a b = rl_mix (i + 1) a b := by
  funext q
  by_cases e : q = i
  · rw [e, rl_mix_ge (Nat.le_refl i), rl_mix_lt (Nat.lt_succ_self i), h]
  · by_cases l : q < i
    · rw [rl_mix_lt l, rl_mix_lt (by omega)]
    · rw [rl_mix_ge (by omega), rl_mix_ge (by omega)]
theorem rl_uI {F : Nat → Int32} {f : Nat → Nat} (h : ∀ p, F p = nI (f p)) (k v : Nat) : ∀ p, upd F k (nI v) p = nI (rl_u f k v p) := by
  intro p
  by_cases e : p = k
  · rw [e, pk_us, rl_us]
  · rw [pk_un e, rl_un e, h]
/-- the arrays that both sides keep alike, and the component's store, as naturals -/
def rl_A (n c m : Nat) (iv ct : Nat → Nat) (g : Nat → Nat → Nat) (st sd rc si ri : Nat → Nat) (IV CT NB ST SD RC SI RI : Nat → Int32) : Prop :=
  rl_W n c m iv ct g st sd rc si ri ∧ (∀ p, IV p = nI (iv p)) ∧ (∀ p, CT p = nI (ct p)) ∧ (∀ p, p < n → ∀ k, k < ct p → NB (p * 8 + k) = nI (g p k)) ∧
    (∀ s, ST s = nI (st s)) ∧ (∀ s, SD s = nI (sd s)) ∧ (∀ s, RC s = nI (rc s)) ∧ (∀ s, SI s = nI (si s)) ∧ (∀ s, RI s = nI (ri s))
/-- what the tests of a message against a line need -/
def rl_Q (n m : Nat) (sd rc si ri : Nat → Nat) (SD RC SI RI : Nat → Int32) : Prop :=
  n ≤ 4 ∧ m ≤ 16 ∧ (∀ s, sd s < n ∧ rc s < n ∧ si s ≤ 99 ∧ ri s ≤ 99) ∧ (∀ s, SD s = nI (sd s)) ∧ (∀ s, RC s = nI (rc s)) ∧ (∀ s, SI s = nI (si s)) ∧ (∀ s, RI s = nI (ri s))
theorem rl_Q_of {n c m : Nat} {iv ct st sd rc si ri : Nat → Nat} {g : Nat → Nat → Nat} {IV CT NB ST SD RC SI RI : Nat → Int32}
    (h : rl_A n c m iv ct g st sd rc si ri IV CT NB ST SD RC SI RI) : rl_Q n m sd rc si ri SD RC SI RI := by
  obtain ⟨hW, _, _, _, _, h1, h2, h3, h4⟩ := h
  exact ⟨hW.1.1.2, hW.1.2.2.2, fun s => (hW.2.2.1.1 s).2, h1, h2, h3, h4⟩
/-- the reference's table holds what the component stores -/
def rl_Tab (n : Nat) (ct : Nat → Nat) (g : Nat → Nat → Nat) (SV TB TS : Nat → Int32) : Prop :=
  (∀ p, p < n → ∀ i, i < 100 → (¬ TB (p * 100 + i) = 0 ↔ ∃ k, k < ct p ∧ g p k = i)) ∧ (∀ i, n * 100 ≤ i → TB i = 0) ∧
    (∀ p, p < n → ∀ k, k < ct p → SV (p * 8 + k) = TS (p * 100 + g p k))
def rl_R (n c m : Nat) (iv ct : Nat → Nat) (g : Nat → Nat → Nat) (st sd rc si ri : Nat → Nat) (vX vY IV U CT NB SV TB TS ST SD RC SI RI : Nat → Int32) : Prop :=
  rl_A n c m iv ct g st sd rc si ri IV CT NB ST SD RC SI RI ∧ rl_Tab n ct g SV TB TS ∧ (∀ p, U p = 0 ∨ U p = 1) ∧ (∀ p, p < n → ¬ U p = 0 → vX p = vY p)
theorem rl_cn400 {F : Nat → Bool} {n : Nat} (h4 : n ≤ 4) (h : ∀ i, n * 100 ≤ i → ¬ F i = true) : rl_cn F 400 = rl_sum (fun q => rl_cn (fun i => F (q * 100 + i)) 100) n := by
  have e : 400 = n * 100 + (400 - n * 100) := by omega
  have h1 : rl_cn F (n * 100 + (400 - n * 100)) = rl_cn F (n * 100) + rl_cn (fun i => F (n * 100 + i)) (400 - n * 100) := rl_cn_add F (n * 100) _
  have h2 : rl_cn (fun i => F (n * 100 + i)) (400 - n * 100) = 0 := rl_cn_0 _ (fun i _ => h _ (by omega))
  have h3 := rl_cn_blk F n
  rw [← e] at h1
  rw [h1, h2, h3]
  rfl
section
variable {n c m : Nat} {iv ct st sd rc si ri : Nat → Nat} {g : Nat → Nat → Nat}
/-- how many of p the reference counts as stored, and how many it drops -/
theorem rl_cntS (hS : rl_Sto n c iv ct g) {TB : Nat → Int32} {p : Nat} (hp : p < n) (hT : ∀ i, i < 100 → (¬ TB (p * 100 + i) = 0 ↔ ∃ k, k < ct p ∧ g p k = i)) :
    rl_cn (fun i => decide (¬ TB (p * 100 + i) = 0)) 100 = ct p := by
  obtain ⟨_, _, h3, h4, h5⟩ := hS p hp
  refine rl_cn_enum 100 (ct p) (h := g p) h3 (fun k hk => ?_) (fun i hi => ?_)
  · have := h4 k hk; omega
  · rw [decide_eq_true_iff]
    exact hT i hi
theorem rl_cntB (hS : rl_Sto n c iv ct g) {TB : Nat → Int32} {p k : Nat} (hp : p < n) (hk : k < ct p) (hT : ∀ i, i < 100 → (¬ TB (p * 100 + i) = 0 ↔ ∃ k, k < ct p ∧ g p k = i)) :
    rl_cn (fun i => decide (¬ TB (p * 100 + i) = 0)) (g p k) = k := by
  obtain ⟨_, _, h3, h4, h5⟩ := hS p hp
  have h6 := h4 k hk
  refine rl_cn_enum (g p k) k (h := g p) (fun i j hij hj => h3 i j hij (by omega)) (fun j hj => h3 j k hj hk) (fun i hi => ?_)
  rw [decide_eq_true_iff, hT i (by omega)]
  constructor
  · rintro ⟨j, hj, e⟩
    refine ⟨j, ?_, e⟩
    rcases Nat.lt_trichotomy j k with l | l | l
    · exact l
    · rw [l] at e; omega
    · have := h3 k j l hj; omega
  · rintro ⟨j, hj, e⟩
    exact ⟨j, by omega, e⟩
theorem rl_cntD (hS : rl_Sto n c iv ct g) {TB KP : Nat → Int32} {p kept : Nat} {f : Nat → Nat} (hp : p < n) (hT : ∀ i, i < 100 → (¬ TB (p * 100 + i) = 0 ↔ ∃ k, k < ct p ∧ g p k = i))
    (hK : ∀ k, k < ct p → (¬ KP (p * 100 + g p k) = 0 ↔ ∃ j, j < kept ∧ f j = k)) (hf : ∀ j, j < kept → f j < ct p) (hm : ∀ i j, i < j → j < kept → f i < f j) :
    rl_cn (fun i => decide (¬ TB (p * 100 + i) = 0) && decide (KP (p * 100 + i) = 0)) 100 = ct p - kept := by
  have h1 := rl_cntS hS hp hT
  have h2 := rl_cn_split (fun i => decide (¬ TB (p * 100 + i) = 0)) (fun i => decide (¬ KP (p * 100 + i) = 0)) 100
  have h3 : rl_cn (fun i => decide (¬ TB (p * 100 + i) = 0) && decide (¬ KP (p * 100 + i) = 0)) 100 = kept := by
    obtain ⟨_, _, a3, a4, a5⟩ := hS p hp
    refine rl_cn_enum 100 kept (h := fun j => g p (f j)) (fun i j hij hj => a3 _ _ (hm i j hij hj) (hf j hj)) (fun k hk => ?_) (fun i hi => ?_)
    · have := a4 _ (hf k hk); omega
    · rw [Bool.and_eq_true, decide_eq_true_iff, decide_eq_true_iff, hT i hi]
      constructor
      · rintro ⟨⟨k, hk, e⟩, hn⟩
        rw [← e] at hn
        obtain ⟨j, hj, ej⟩ := (hK k hk).mp hn
        exact ⟨j, hj, by rw [ej, e]⟩
      · rintro ⟨j, hj, e⟩
        have e' : g p (f j) = i := e
        refine ⟨⟨f j, hf j hj, e'⟩, ?_⟩
        rw [← e']
        exact (hK _ (hf j hj)).mpr ⟨j, hj, rfl⟩
  have h4 : rl_cn (fun i => decide (¬ TB (p * 100 + i) = 0) && decide (KP (p * 100 + i) = 0)) 100 = rl_cn (fun i => decide (¬ TB (p * 100 + i) = 0) && !decide (¬ KP (p * 100 + i) = 0)) 100 := by
    refine rl_cn_eq 100 (fun i _ => ?_)
    by_cases a : TB (p * 100 + i) = 0 <;> by_cases b : KP (p * 100 + i) = 0 <;> simp [a, b]
  rw [h4]
  omega
end
/-- the same of the reference's side -/
def rl_AY (n c m : Nat) (iv ct : Nat → Nat) (g : Nat → Nat → Nat) (st sd rc si ri : Nat → Nat) (IV TB ST SD RC SI RI : Nat → Int32) : Prop :=
  rl_W n c m iv ct g st sd rc si ri ∧ (∀ p, IV p = nI (iv p)) ∧ (∀ p, p < n → ∀ i, i < 100 → (¬ TB (p * 100 + i) = 0 ↔ ∃ k, k < ct p ∧ g p k = i)) ∧
    (∀ s, ST s = nI (st s)) ∧ (∀ s, SD s = nI (sd s)) ∧ (∀ s, RC s = nI (rc s)) ∧ (∀ s, SI s = nI (si s)) ∧ (∀ s, RI s = nI (ri s))
end
section
theorem rl_lt0 {a : Nat} (h : a < 2 ^ 31) : nI a < 0 ↔ False := ⟨fun z => nI_pos h z, False.elim⟩
theorem rl_0le {a : Nat} (h : a < 2 ^ 31) : (0 : Int32) ≤ nI a ↔ True := ⟨fun _ => trivial, fun _ => nI_pos' h⟩
theorem rl_eq0 {a : Nat} (h : a < 2 ^ 31) : nI a = 0 ↔ a = 0 := nI_eq (b := 0) h (by decide)
theorem rl_eq1 {a : Nat} (h : a < 2 ^ 31) : nI a = 1 ↔ a = 1 := nI_eq (b := 1) h (by decide)
theorem rl_eq2 {a : Nat} (h : a < 2 ^ 31) : nI a = 2 ↔ a = 2 := nI_eq (b := 2) h (by decide)
theorem rl_ge {x : Int32} (b : Nat) (hx : x = nI b) (hb : b < 2 ^ 31) {a : Nat} (h : a < 2 ^ 31) : x ≤ nI a ↔ b ≤ a := by
  rw [hx]; exact nI_leI hb h
theorem rl_99 {a : Nat} (h : a < 2 ^ 31) : (99 : Int32) ≤ nI a ↔ 99 ≤ a := rl_ge 99 rfl (by decide) h
theorem rl_33 {a : Nat} (h : a < 2 ^ 31) : (33 : Int32) ≤ nI a ↔ 33 ≤ a := rl_ge 33 rfl (by decide) h
theorem rl_32 {a : Nat} (h : a < 2 ^ 31) : (32 : Int32) ≤ nI a ↔ 32 ≤ a := rl_ge 32 rfl (by decide) h
theorem rl_400 {a : Nat} (h : a < 2 ^ 31) : (400 : Int32) ≤ nI a ↔ 400 ≤ a := rl_ge 400 rfl (by decide) h
theorem rl_6561 {a : Nat} (h : a < 2 ^ 31) : (6561 : Int32) ≤ nI a ↔ 6561 ≤ a := rl_ge 6561 rfl (by decide) h
theorem rl_99l {a : Nat} (h : a < 2 ^ 31) : nI a ≤ (99 : Int32) ↔ a ≤ 99 := nI_leI (b := 99) h (by decide)
theorem rl_99g {a : Nat} (h : a < 2 ^ 31) : (99 : Int32) < nI a ↔ 99 < a := nI_ltI (a := 99) (by decide) h
theorem rl_m1 (a : Nat) : nI (a + 1) + (-1) = nI a := pk_m1 a
theorem rl_m8 (a : Nat) : nI a * 8 = nI (a * 8) := pk_mul a 8
theorem rl_m100 (a : Nat) : nI a * 100 = nI (a * 100) := pk_mul a 100
theorem rl_vb0 : vp_nar .boolean 0 = 0 := by decide
theorem rl_vb1 : vp_nar .boolean 1 = 1 := by decide
theorem rl_nb01 {z : Int32} (h : z = 0 ∨ z = 1) : narrow .boolean (.int z) = .int z := by
  rcases h with rfl | rfl <;> decide
theorem rl_ne4 {a : Nat} (h : a < 2 ^ 31) : ¬ nI a = -4 := by
  intro z
  have h1 : (nI a).toInt = (-4 : Int32).toInt := by rw [z]
  rw [nI_toInt h] at h1
  have h2 : (-4 : Int32).toInt = -4 := by decide
  omega
theorem rl_10 : (1 : Int32) = 0 ↔ False := ⟨fun h => absurd h (by decide), False.elim⟩
theorem rl_n10 : (-1 : Int32) < 0 ↔ True := ⟨fun _ => trivial, fun _ => by decide⟩
theorem rl_l99 {a : Nat} (h : a < 2 ^ 31) : nI a < (99 : Int32) ↔ a < 99 := nI_ltI (b := 99) h (by decide)
end
section
-- rows of kit/laws/BITS.to-paste
def bt (x : Int32) (i : Nat) : Bool := x.toBitVec.getLsbD i
theorem b_ext {x y : Int32} (h : ∀ i, i < 32 → bt x i = bt y i) : x = y := Int32.toBitVec_inj.mp (BitVec.eq_of_getLsbD_eq (fun i hi => h i hi))
theorem b_or (x y : Int32) (i : Nat) : bt (x ||| y) i = (bt x i || bt y i) := by unfold bt; rw [Int32.toBitVec_or, BitVec.getLsbD_or]
theorem b_and (x y : Int32) (i : Nat) : bt (x &&& y) i = (bt x i && bt y i) := by unfold bt; rw [Int32.toBitVec_and, BitVec.getLsbD_and]
theorem b_0 (i : Nat) : bt 0 i = false := BitVec.getLsbD_zero
theorem b_big {x : Int32} {i : Nat} (h : 32 ≤ i) : bt x i = false := BitVec.getLsbD_of_ge _ _ h
theorem s_l : ∀ n, n < 32 → ((nI n &&& 31).toBitVec.smod 32).toNat = n := by decide +kernel
theorem b_shl (n : Nat) (hn : n < 32) (x : Int32) {i : Nat} (hi : i < 32) : bt (x <<< (nI n &&& 31)) i = (decide (n ≤ i) && bt x (i - n)) := by
  unfold bt
  rw [Int32.toBitVec_shiftLeft]
  show (x.toBitVec <<< ((nI n &&& 31).toBitVec.smod 32).toNat).getLsbD i = _
  rw [s_l n hn, BitVec.getLsbD_shiftLeft]
  rcases Nat.lt_or_ge i n with h | h
  · simp [h, Nat.not_le.mpr h]
  · simp [hi, h, Nat.not_lt.mpr h]
theorem b_sshr (n : Nat) (hn : n < 32) (x : Int32) {i : Nat} (hi : i < 32) : bt (x >>> (nI n &&& 31)) i = if n + i < 32 then bt x (n + i) else bt x 31 := by
  unfold bt
  rw [Int32.toBitVec_shiftRight]
  show (x.toBitVec.sshiftRight ((nI n &&& 31).toBitVec.smod 32).toNat).getLsbD i = _
  rw [s_l n hn, BitVec.getLsbD_sshiftRight, BitVec.msb_eq_getLsbD_last]
  simp [hi]
theorem wb_tb (n : Nat) : (lN n).toBitVec = BitVec.ofNat 64 n := rfl
theorem wb_inj {a b : Int64} (h : a.toBitVec = b.toBitVec) : a = b := Int64.toBitVec_inj.mp h
theorem wb_tn {n : Nat} (h : n < 2 ^ 64) : (lN n).toBitVec.toNat = n := by rw [wb_tb, BitVec.toNat_ofNat, Nat.mod_eq_of_lt h]
theorem wb_of (x : Int64) : ∃ n, n < 2 ^ 64 ∧ x = lN n := ⟨x.toBitVec.toNat, x.toBitVec.isLt, wb_inj (by rw [wb_tb]; simp)⟩
theorem wb_c : ∀ k, k < 64 → ((nI k).toInt64 &&& 63) = lN k := by decide +kernel
theorem wb_cu : ∀ k, k < 64 → ((nI k).toInt64.toUInt64 &&& Int64.toUInt64 63) = UInt64.ofNat k := by decide +kernel
theorem wb_sm : ∀ k, k < 64 → (BitVec.ofNat 64 k).smod 64 = BitVec.ofNat 64 k := by decide +kernel
theorem wb_pw {a b : Nat} (h : a ≤ b) : 2 ^ b = 2 ^ a * 2 ^ (b - a) := by rw [← Nat.pow_add]; congr 1; omega
theorem wb_lt2 {a b : Nat} (h : a < b) : 2 ^ a < 2 ^ b := Nat.pow_lt_pow_right (by decide) h
theorem wb_shr {n k : Nat} (hn : n < 2 ^ 64) (hk : k < 64) : ((lN n).toUInt64 >>> ((nI k).toInt64.toUInt64 &&& Int64.toUInt64 63)).toInt64 = lN (n / 2 ^ k) := by
  rw [wb_cu k hk]
  apply wb_inj
  apply BitVec.eq_of_toNat_eq
  show ((lN n).toUInt64 >>> UInt64.ofNat k).toNat = (BitVec.ofNat 64 _).toNat
  have h1 : (UInt64.ofNat k).toNat = k := by
    show (BitVec.ofNat 64 k).toNat = k
    rw [BitVec.toNat_ofNat, Nat.mod_eq_of_lt (by omega)]
  have h2 : (lN n).toUInt64.toNat = n := wb_tn hn
  rw [UInt64.toNat_shiftRight, h1, h2, Nat.mod_eq_of_lt hk, Nat.shiftRight_eq_div_pow, BitVec.toNat_ofNat, Nat.mod_eq_of_lt (Nat.lt_of_le_of_lt (Nat.div_le_self _ _) hn)]
theorem wb_shl (n : Nat) {k : Nat} (hk : k < 64) : lN n <<< ((nI k).toInt64 &&& 63) = lN (n * 2 ^ k) := by
  rw [wb_c k hk]
  apply wb_inj
  rw [Int64.toBitVec_shiftLeft, wb_tb, wb_tb, wb_tb, wb_sm k hk]
  apply BitVec.eq_of_toNat_eq
  rw [BitVec.shiftLeft_eq', BitVec.toNat_shiftLeft, BitVec.toNat_ofNat, BitVec.toNat_ofNat, BitVec.toNat_ofNat, Nat.mod_eq_of_lt (show k < 2 ^ 64 by omega), Nat.shiftLeft_eq, Nat.mul_mod, Nat.mod_mod, ← Nat.mul_mod]
theorem wb_and {a b : Nat} (ha : a < 2 ^ 64) (hb : b < 2 ^ 64) : lN a &&& lN b = lN (a &&& b) := by
  apply wb_inj
  rw [Int64.toBitVec_and, wb_tb, wb_tb, wb_tb]
  apply BitVec.eq_of_toNat_eq
  rw [BitVec.toNat_and, BitVec.toNat_ofNat, BitVec.toNat_ofNat, BitVec.toNat_ofNat, Nat.mod_eq_of_lt ha, Nat.mod_eq_of_lt hb, Nat.mod_eq_of_lt (Nat.and_lt_two_pow _ hb)]
theorem wb_or {a b : Nat} (ha : a < 2 ^ 64) (hb : b < 2 ^ 64) : lN a ||| lN b = lN (a ||| b) := by
  apply wb_inj
  rw [Int64.toBitVec_or, wb_tb, wb_tb, wb_tb]
  apply BitVec.eq_of_toNat_eq
  rw [BitVec.toNat_or, BitVec.toNat_ofNat, BitVec.toNat_ofNat, BitVec.toNat_ofNat, Nat.mod_eq_of_lt ha, Nat.mod_eq_of_lt hb, Nat.mod_eq_of_lt (Nat.or_lt_two_pow ha hb)]
theorem wb_mask {n k : Nat} (hn : n < 2 ^ 64) (hk : k < 64) : lN n &&& lN (2 ^ k - 1) = lN (n % 2 ^ k) := by
  rw [wb_and hn (by have := wb_lt2 hk; omega), Nat.and_two_pow_sub_one_eq_mod]
theorem nx_and (a b : Nat) : nI a &&& nI b = nI (a &&& b) := by
  apply Int32.toBitVec_inj.1
  show BitVec.ofNat 32 a &&& BitVec.ofNat 32 b = BitVec.ofNat 32 (a &&& b)
  apply BitVec.eq_of_getLsbD_eq
  intro i hi
  simp [hi]
end
section
section
variable {n c m : Nat} {iv ct st sd rc si ri : Nat → Nat} {g : Nat → Nat → Nat}
variable {vX IV U CT NB SV ST SD RC PL SI RI LN ND SE : Nat → Int32}
theorem rx_bad {post : Int32 → Prop} {p : Nat} (hp : p < n) (n4 : n ≤ 4) (k : post 0) : wpX_isBadProcess post (nI n, nI c, nI m, vX, IV, U, CT, NB, SV, ST, SD, RC, PL, SI, RI, LN, ND, SE) (nI p) := by
  simp (disch := omega) only [wpX_isBadProcess, hp, forall_eq, Nat.le_refl, rl_10, rl_n10, nI_leI, nI_ltI, nI_eq, vp_in_nI, nI_clamp, nI_1, nI_add, rl_lt0, rl_0le, rl_eq0, rl_eq1, rl_eq2, rl_m1, rl_m8, rl_m100, rl_vb0, rl_vb1, true_implies, forall_const, not_true_eq_false, not_false_eq_true, false_implies, and_true, true_and, implies_true, and_self]
  exact k
theorem rx_badN {post : Int32 → Prop} {x : Int32} (h : x < 0) (k : post 1) : wpX_isBadProcess post (nI n, nI c, nI m, vX, IV, U, CT, NB, SV, ST, SD, RC, PL, SI, RI, LN, ND, SE) x := by
  simp only [wpX_isBadProcess, h, forall_eq, Nat.le_refl, rl_10, rl_n10, nI_leI, nI_ltI, nI_eq, vp_in_nI, nI_clamp, nI_1, nI_add, rl_lt0, rl_0le, rl_eq0, rl_eq1, rl_eq2, rl_m1, rl_m8, rl_m100, rl_vb0, rl_vb1, true_implies, forall_const, not_true_eq_false, not_false_eq_true, false_implies, and_true, true_and, implies_true, and_self]
  exact k
theorem rx_badG {post : Int32 → Prop} {x : Int32} (h : nI n ≤ x) (k : post 1) : wpX_isBadProcess post (nI n, nI c, nI m, vX, IV, U, CT, NB, SV, ST, SD, RC, PL, SI, RI, LN, ND, SE) x := by
  have h' : ¬ x < nI n := Int32.not_lt.mpr h
  simp only [wpX_isBadProcess, h', forall_eq, Nat.le_refl, rl_10, rl_n10, nI_leI, nI_ltI, nI_eq, vp_in_nI, nI_clamp, nI_1, nI_add, rl_lt0, rl_0le, rl_eq0, rl_eq1, rl_eq2, rl_m1, rl_m8, rl_m100, rl_vb0, rl_vb1, true_implies, forall_const, not_true_eq_false, not_false_eq_true, false_implies, and_true, true_and, implies_true, and_self]
  exact ⟨fun _ => k, fun _ => k⟩
theorem rx_badS {post : Int32 → Prop} {p : Nat} (hp : p < m) (n4 : m ≤ 16) (k : post 0) : wpX_isBadSlot post (nI n, nI c, nI m, vX, IV, U, CT, NB, SV, ST, SD, RC, PL, SI, RI, LN, ND, SE) (nI p) := by
  simp (disch := omega) only [wpX_isBadSlot, hp, forall_eq, Nat.le_refl, rl_10, rl_n10, nI_leI, nI_ltI, nI_eq, vp_in_nI, nI_clamp, nI_1, nI_add, rl_lt0, rl_0le, rl_eq0, rl_eq1, rl_eq2, rl_m1, rl_m8, rl_m100, rl_vb0, rl_vb1, true_implies, forall_const, not_true_eq_false, not_false_eq_true, false_implies, and_true, true_and, implies_true, and_self]
  exact k
theorem rx_badSN {post : Int32 → Prop} {x : Int32} (h : x < 0) (k : post 1) : wpX_isBadSlot post (nI n, nI c, nI m, vX, IV, U, CT, NB, SV, ST, SD, RC, PL, SI, RI, LN, ND, SE) x := by
  simp only [wpX_isBadSlot, h, forall_eq, Nat.le_refl, rl_10, rl_n10, nI_leI, nI_ltI, nI_eq, vp_in_nI, nI_clamp, nI_1, nI_add, rl_lt0, rl_0le, rl_eq0, rl_eq1, rl_eq2, rl_m1, rl_m8, rl_m100, rl_vb0, rl_vb1, true_implies, forall_const, not_true_eq_false, not_false_eq_true, false_implies, and_true, true_and, implies_true, and_self]
  exact k
theorem rx_badSG {post : Int32 → Prop} {x : Int32} (h : nI m ≤ x) (k : post 1) : wpX_isBadSlot post (nI n, nI c, nI m, vX, IV, U, CT, NB, SV, ST, SD, RC, PL, SI, RI, LN, ND, SE) x := by
  have h' : ¬ x < nI m := Int32.not_lt.mpr h
  simp only [wpX_isBadSlot, h', forall_eq, Nat.le_refl, rl_10, rl_n10, nI_leI, nI_ltI, nI_eq, vp_in_nI, nI_clamp, nI_1, nI_add, rl_lt0, rl_0le, rl_eq0, rl_eq1, rl_eq2, rl_m1, rl_m8, rl_m100, rl_vb0, rl_vb1, true_implies, forall_const, not_true_eq_false, not_false_eq_true, false_implies, and_true, true_and, implies_true, and_self]
  exact ⟨fun _ => k, fun _ => k⟩
theorem rx_cellOf_l {post : Int32 → Prop} {p K : Nat} {gp : Nat → Nat} (hp : p < 4) (hK : K ≤ 8) (hct : CT p = nI K) (hnb : ∀ k, k < K → NB (p * 8 + k) = nI (gp k)) {x : Int32}
    (h1 : ∀ k, k < K → nI (gp k) = x → post (nI (p * 8 + k))) (h2 : (∀ k, k < K → ¬ nI (gp k) = x) → post (-4)) :
    ∀ (fu k : Nat), K < fu + k → k ≤ K → (∀ j, j < k → ¬ nI (gp j) = x) → wX_cellOf_8 post (nI p) x (nI (p * 8)) (nI n) (nI c) (nI m) vX IV U CT NB SV ST SD RC PL SI RI LN ND SE fu (nI k) := by
  intro fu
  induction fu with
  | zero => intro k q1 q2; omega
  | succ fu ih =>
    intro k q1 q2 q3
    by_cases e : K ≤ k
    · simp (disch := omega) only [wX_cellOf_8, hct, e, forall_eq, Nat.le_refl, rl_10, rl_n10, nI_leI, nI_ltI, nI_eq, vp_in_nI, nI_clamp, nI_1, nI_add, rl_lt0, rl_0le, rl_eq0, rl_eq1, rl_eq2, rl_m1, rl_m8, rl_m100, rl_vb0, rl_vb1, true_implies, forall_const, not_true_eq_false, not_false_eq_true, false_implies, and_true, true_and, implies_true, and_self]
      exact h2 (fun j hj => q3 j (by omega))
    · have hkc : k < K := by omega
      have hn := hnb k hkc
      by_cases l : nI (gp k) = x
      · simp (disch := omega) only [wX_cellOf_8, hct, e, hn, l, forall_eq, Nat.le_refl, rl_10, rl_n10, nI_leI, nI_ltI, nI_eq, vp_in_nI, nI_clamp, nI_1, nI_add, rl_lt0, rl_0le, rl_eq0, rl_eq1, rl_eq2, rl_m1, rl_m8, rl_m100, rl_vb0, rl_vb1, true_implies, forall_const, not_true_eq_false, not_false_eq_true, false_implies, and_true, true_and, implies_true, and_self]
        exact h1 k hkc l
      · simp (disch := omega) only [wX_cellOf_8, hct, e, hn, l, forall_eq, Nat.le_refl, rl_10, rl_n10, nI_leI, nI_ltI, nI_eq, vp_in_nI, nI_clamp, nI_1, nI_add, rl_lt0, rl_0le, rl_eq0, rl_eq1, rl_eq2, rl_m1, rl_m8, rl_m100, rl_vb0, rl_vb1, true_implies, forall_const, not_true_eq_false, not_false_eq_true, false_implies, and_true, true_and, implies_true, and_self]
        refine ih (k + 1) (by omega) (by omega) (fun j hj => ?_)
        by_cases q : j = k
        · rw [q]; exact l
        · exact q3 j (by omega)
theorem rx_cellOf {post : Int32 → Prop} {p K : Nat} {gp : Nat → Nat} (hp : p < 4) (hK : K ≤ 8) (hct : CT p = nI K) (hnb : ∀ k, k < K → NB (p * 8 + k) = nI (gp k)) {x : Int32}
    (h1 : ∀ k, k < K → nI (gp k) = x → post (nI (p * 8 + k))) (h2 : (∀ k, k < K → ¬ nI (gp k) = x) → post (-4)) : wpX_cellOf post (nI n, nI c, nI m, vX, IV, U, CT, NB, SV, ST, SD, RC, PL, SI, RI, LN, ND, SE) (nI p) x := by
  simp (disch := omega) only [wpX_cellOf, wpX_firstCell, forall_eq, Nat.le_refl, rl_10, rl_n10, nI_leI, nI_ltI, nI_eq, vp_in_nI, nI_clamp, nI_1, nI_add, rl_lt0, rl_0le, rl_eq0, rl_eq1, rl_eq2, rl_m1, rl_m8, rl_m100, rl_vb0, rl_vb1, true_implies, forall_const, not_true_eq_false, not_false_eq_true, false_implies, and_true, true_and, implies_true, and_self]
  exact ⟨K + 1, rx_cellOf_l hp hK hct hnb h1 h2 (K + 1) 0 (by omega) (by omega) (fun j hj => absurd hj (by omega))⟩
theorem rx_newest_l (hA : rl_A n c m iv ct g st sd rc si ri IV CT NB ST SD RC SI RI) {post : Int32 → Prop} {p b k0 : Nat} (hp : p < n) (hb : b < 2 ^ 31) (hk : k0 < ct p) (hle : g p k0 ≤ b)
    (hmax : ∀ j, j < ct p → g p j ≤ b → j ≤ k0) (hpost : post (nI (g p k0))) :
    ∀ (fu k : Nat) (x4 : Int32), ct p < fu + k → k ≤ ct p → (k0 < k → x4 = nI (g p k0)) → wX_newestAtMost_12 post (nI p) (nI b) (nI (p * 8)) (nI n) (nI c) (nI m) vX IV U CT NB SV ST SD RC PL SI RI LN ND SE fu x4 (nI k) := by
  have hA' := hA
  obtain ⟨hW, hIV, hCT, hNB, hST, hSD, hRC, hSI, hRI⟩ := hA'
  have hW' := hW
  obtain ⟨⟨⟨n2, n4⟩, ⟨c3, c8⟩, ⟨m4, m16⟩⟩, hS, hM, hB⟩ := hW'
  obtain ⟨s1, s2, s3, s4, s5⟩ := hS p hp
  intro fu
  induction fu with
  | zero => intro k x4 q1 q2; omega
  | succ fu ih =>
    intro k x4 q1 q2 q3
    by_cases e : ct p ≤ k
    · simp (disch := omega) only [wX_newestAtMost_12, hCT, e, forall_eq, Nat.le_refl, rl_10, rl_n10, nI_leI, nI_ltI, nI_eq, vp_in_nI, nI_clamp, nI_1, nI_add, rl_lt0, rl_0le, rl_eq0, rl_eq1, rl_eq2, rl_m1, rl_m8, rl_m100, rl_vb0, rl_vb1, true_implies, forall_const, not_true_eq_false, not_false_eq_true, false_implies, and_true, true_and, implies_true, and_self]
      rw [q3 (by omega)]
      exact hpost
    · have hkc : k < ct p := by omega
      have hnb := hNB p hp k hkc
      have hg := s4 k hkc
      by_cases l : g p k ≤ b
      · have l2 : ¬ b < g p k := by omega
        simp (disch := omega) only [wX_newestAtMost_12, hCT, e, hnb, l2, forall_eq, Nat.le_refl, rl_10, rl_n10, nI_leI, nI_ltI, nI_eq, vp_in_nI, nI_clamp, nI_1, nI_add, rl_lt0, rl_0le, rl_eq0, rl_eq1, rl_eq2, rl_m1, rl_m8, rl_m100, rl_vb0, rl_vb1, true_implies, forall_const, not_true_eq_false, not_false_eq_true, false_implies, and_true, true_and, implies_true, and_self]
        refine ih (k + 1) _ (by omega) (by omega) (fun z => ?_)
        have := hmax k hkc l
        have e3 : k = k0 := by omega
        rw [e3]
      · have l2 : b < g p k := by omega
        simp (disch := omega) only [wX_newestAtMost_12, hCT, e, hnb, l2, forall_eq, Nat.le_refl, rl_10, rl_n10, nI_leI, nI_ltI, nI_eq, vp_in_nI, nI_clamp, nI_1, nI_add, rl_lt0, rl_0le, rl_eq0, rl_eq1, rl_eq2, rl_m1, rl_m8, rl_m100, rl_vb0, rl_vb1, true_implies, forall_const, not_true_eq_false, not_false_eq_true, false_implies, and_true, true_and, implies_true, and_self]
        refine ih (k + 1) _ (by omega) (by omega) (fun z => ?_)
        by_cases q : k0 = k
        · rw [q] at hle; exact absurd hle l
        · exact q3 (by omega)
theorem rx_newest (hA : rl_A n c m iv ct g st sd rc si ri IV CT NB ST SD RC SI RI) {post : Int32 → Prop} {p b k0 : Nat} (hp : p < n) (hb : b < 2 ^ 31) (hk : k0 < ct p) (hle : g p k0 ≤ b)
    (hmax : ∀ j, j < ct p → g p j ≤ b → j ≤ k0) (hpost : post (nI (g p k0))) : wpX_newestAtMost post (nI n, nI c, nI m, vX, IV, U, CT, NB, SV, ST, SD, RC, PL, SI, RI, LN, ND, SE) (nI p) (nI b) := by
  have n4 := hA.1.1.1.2
  simp (disch := omega) only [wpX_newestAtMost, wpX_firstCell, forall_eq, Nat.le_refl, rl_10, rl_n10, nI_leI, nI_ltI, nI_eq, vp_in_nI, nI_clamp, nI_1, nI_add, rl_lt0, rl_0le, rl_eq0, rl_eq1, rl_eq2, rl_m1, rl_m8, rl_m100, rl_vb0, rl_vb1, true_implies, forall_const, not_true_eq_false, not_false_eq_true, false_implies, and_true, true_and, implies_true, and_self]
  exact ⟨ct p + 1, rx_newest_l hA hp hb hk hle hmax hpost (ct p + 1) 0 _ (by omega) (by omega) (fun z => by omega)⟩
/-- the processes that are down -/
def rl_dn (U : Nat → Int32) : Nat → Bool := fun p => decide (U p = 0)
theorem rx_down_l {post : Int32 → Prop} (n4 : n ≤ 4) (hpost : post (rl_or (rl_dn U) n)) :
    ∀ (fu p : Nat), n < fu + p → p ≤ n → wX_downSet_4 post (nI n) (nI c) (nI m) vX IV U CT NB SV ST SD RC PL SI RI LN ND SE fu (rl_or (rl_dn U) p) (nI p) := by
  intro fu
  induction fu with
  | zero => intro p q1 q2; omega
  | succ fu ih =>
    intro p q1 q2
    by_cases e : n ≤ p
    · have e2 : p = n := by omega
      simp (disch := omega) only [wX_downSet_4, e, forall_eq, Nat.le_refl, rl_10, rl_n10, nI_leI, nI_ltI, nI_eq, vp_in_nI, nI_clamp, nI_1, nI_add, rl_lt0, rl_0le, rl_eq0, rl_eq1, rl_eq2, rl_m1, rl_m8, rl_m100, rl_vb0, rl_vb1, true_implies, forall_const, not_true_eq_false, not_false_eq_true, false_implies, and_true, true_and, implies_true, and_self]
      rw [e2]; exact hpost
    · have h4 : p < 4 := by omega
      by_cases l : U p = 0
      · have hd : rl_dn U p = true := decide_eq_true l
        simp (disch := omega) only [wX_downSet_4, e, l, forall_eq, Nat.le_refl, rl_10, rl_n10, nI_leI, nI_ltI, nI_eq, vp_in_nI, nI_clamp, nI_1, nI_add, rl_lt0, rl_0le, rl_eq0, rl_eq1, rl_eq2, rl_m1, rl_m8, rl_m100, rl_vb0, rl_vb1, true_implies, forall_const, not_true_eq_false, not_false_eq_true, false_implies, and_true, true_and, implies_true, and_self]
        have := ih (p + 1) (by omega) (by omega)
        rw [rl_or_t hd] at this
        exact this
      · have hd : ¬ rl_dn U p = true := fun z => l (of_decide_eq_true z)
        simp (disch := omega) only [wX_downSet_4, e, l, forall_eq, Nat.le_refl, rl_10, rl_n10, nI_leI, nI_ltI, nI_eq, vp_in_nI, nI_clamp, nI_1, nI_add, rl_lt0, rl_0le, rl_eq0, rl_eq1, rl_eq2, rl_m1, rl_m8, rl_m100, rl_vb0, rl_vb1, true_implies, forall_const, not_true_eq_false, not_false_eq_true, false_implies, and_true, true_and, implies_true, and_self]
        have := ih (p + 1) (by omega) (by omega)
        rw [rl_or_f hd] at this
        exact this
theorem rx_down {post : Int32 → Prop} (n4 : n ≤ 4) (hpost : post (rl_or (rl_dn U) n)) : wpX_downSet post (nI n, nI c, nI m, vX, IV, U, CT, NB, SV, ST, SD, RC, PL, SI, RI, LN, ND, SE) := by
  simp only [wpX_downSet]
  exact ⟨n + 1, rx_down_l n4 hpost (n + 1) 0 (by omega) (by omega)⟩
theorem rx_recInc (hQ : rl_Q n m sd rc si ri SD RC SI RI) {post : Int32 → Prop} {s : Nat} {x : Nat → Nat} (hs : s < m) (hx : ∀ p, p < n → LN p = nI (x p)) (h100 : ∀ p, p < n → x p ≤ 100)
    (h1 : ri s < x (rc s) → post 1) (h0 : ¬ ri s < x (rc s) → post 0) : wpX_isReceiptIncluded post (nI n, nI c, nI m, vX, IV, U, CT, NB, SV, ST, SD, RC, PL, SI, RI, LN, ND, SE) (nI s) := by
  obtain ⟨n4, m16, hM1, hSD, hRC, hSI, hRI⟩ := hQ
  obtain ⟨t2, t3, t4, t5⟩ := hM1 s
  have hl := hx _ t3
  have h3 := h100 _ t3
  by_cases e : x (rc s) ≤ ri s
  · simp (disch := omega) only [wpX_isReceiptIncluded, hRC, hRI, hl, e, forall_eq, Nat.le_refl, rl_10, rl_n10, nI_leI, nI_ltI, nI_eq, vp_in_nI, nI_clamp, nI_1, nI_add, rl_lt0, rl_0le, rl_eq0, rl_eq1, rl_eq2, rl_m1, rl_m8, rl_m100, rl_vb0, rl_vb1, true_implies, forall_const, not_true_eq_false, not_false_eq_true, false_implies, and_true, true_and, implies_true, and_self]
    exact h0 (by omega)
  · simp (disch := omega) only [wpX_isReceiptIncluded, hRC, hRI, hl, e, forall_eq, Nat.le_refl, rl_10, rl_n10, nI_leI, nI_ltI, nI_eq, vp_in_nI, nI_clamp, nI_1, nI_add, rl_lt0, rl_0le, rl_eq0, rl_eq1, rl_eq2, rl_m1, rl_m8, rl_m100, rl_vb0, rl_vb1, true_implies, forall_const, not_true_eq_false, not_false_eq_true, false_implies, and_true, true_and, implies_true, and_self]
    exact h1 (by omega)
theorem rx_sendInc (hQ : rl_Q n m sd rc si ri SD RC SI RI) {post : Int32 → Prop} {s : Nat} {x : Nat → Nat} (hs : s < m) (hx : ∀ p, p < n → LN p = nI (x p)) (h100 : ∀ p, p < n → x p ≤ 100)
    (h1 : si s < x (sd s) → post 1) (h0 : ¬ si s < x (sd s) → post 0) : wpX_isSendingIncluded post (nI n, nI c, nI m, vX, IV, U, CT, NB, SV, ST, SD, RC, PL, SI, RI, LN, ND, SE) (nI s) := by
  obtain ⟨n4, m16, hM1, hSD, hRC, hSI, hRI⟩ := hQ
  obtain ⟨t2, t3, t4, t5⟩ := hM1 s
  have hl := hx _ t2
  have h3 := h100 _ t2
  by_cases e : x (sd s) ≤ si s
  · simp (disch := omega) only [wpX_isSendingIncluded, hSD, hSI, hl, e, forall_eq, Nat.le_refl, rl_10, rl_n10, nI_leI, nI_ltI, nI_eq, vp_in_nI, nI_clamp, nI_1, nI_add, rl_lt0, rl_0le, rl_eq0, rl_eq1, rl_eq2, rl_m1, rl_m8, rl_m100, rl_vb0, rl_vb1, true_implies, forall_const, not_true_eq_false, not_false_eq_true, false_implies, and_true, true_and, implies_true, and_self]
    exact h0 (by omega)
  · simp (disch := omega) only [wpX_isSendingIncluded, hSD, hSI, hl, e, forall_eq, Nat.le_refl, rl_10, rl_n10, nI_leI, nI_ltI, nI_eq, vp_in_nI, nI_clamp, nI_1, nI_add, rl_lt0, rl_0le, rl_eq0, rl_eq1, rl_eq2, rl_m1, rl_m8, rl_m100, rl_vb0, rl_vb1, true_implies, forall_const, not_true_eq_false, not_false_eq_true, false_implies, and_true, true_and, implies_true, and_self]
    exact h1 (by omega)
theorem rx_orphan (hA : rl_A n c m iv ct g st sd rc si ri IV CT NB ST SD RC SI RI) {post : Int32 → Prop} {s : Nat} {x : Nat → Nat} (hs : s < m) (hx : ∀ p, p < n → LN p = nI (x p)) (h100 : ∀ p, p < n → x p ≤ 100)
    (h1 : st s = 2 → ri s < x (rc s) → ¬ si s < x (sd s) → post 1) (h0 : (st s = 2 → ri s < x (rc s) → si s < x (sd s)) → post 0) : wpX_isOrphan post (nI n, nI c, nI m, vX, IV, U, CT, NB, SV, ST, SD, RC, PL, SI, RI, LN, ND, SE) (nI s) := by
  have hA' := hA
  obtain ⟨hW, hIV, hCT, hNB, hST, hSD, hRC, hSI, hRI⟩ := hA'
  have hW' := hW
  obtain ⟨⟨⟨n2, n4⟩, ⟨c3, c8⟩, ⟨m4, m16⟩⟩, hS, hM, hB⟩ := hW'
  obtain ⟨t1, t2, t3, t4, t5⟩ := hM.1 s
  by_cases e : st s = 2
  · simp (disch := omega) only [wpX_isOrphan, hST, e, forall_eq, Nat.le_refl, rl_10, rl_n10, nI_leI, nI_ltI, nI_eq, vp_in_nI, nI_clamp, nI_1, nI_add, rl_lt0, rl_0le, rl_eq0, rl_eq1, rl_eq2, rl_m1, rl_m8, rl_m100, rl_vb0, rl_vb1, true_implies, forall_const, not_true_eq_false, not_false_eq_true, false_implies, and_true, true_and, implies_true, and_self]
    refine rx_recInc (rl_Q_of hA) hs hx h100 (fun a => ?_) (fun a => ?_)
    · try dsimp only
      refine br_f (by decide) ?_
      refine rx_sendInc (rl_Q_of hA) hs hx h100 (fun b => ?_) (fun b => ?_)
      · try dsimp only
        exact br_f (by decide) (h0 (fun _ _ => b))
      · try dsimp only
        exact br_t rfl (h1 e a b)
    · try dsimp only
      exact br_t rfl (h0 (fun _ z => absurd z a))
  · simp (disch := omega) only [wpX_isOrphan, hST, e, forall_eq, Nat.le_refl, rl_10, rl_n10, nI_leI, nI_ltI, nI_eq, vp_in_nI, nI_clamp, nI_1, nI_add, rl_lt0, rl_0le, rl_eq0, rl_eq1, rl_eq2, rl_m1, rl_m8, rl_m100, rl_vb0, rl_vb1, true_implies, forall_const, not_true_eq_false, not_false_eq_true, false_implies, and_true, true_and, implies_true, and_self]
    exact h0 (fun z => absurd z e)
theorem rx_isNow {post : Int32 → Prop} {p v y : Nat} (hp : p < 4) (hv : v < 2 ^ 31) (hy : y < 2 ^ 31) (hiv : IV p = nI v) (hl : LN p = nI y) (h1 : v < y → post 1) (h0 : ¬ v < y → post 0) :
    wpX_isNow post (nI n, nI c, nI m, vX, IV, U, CT, NB, SV, ST, SD, RC, PL, SI, RI, LN, ND, SE) (nI p) := by
  by_cases e : v < y
  · have e2 : ¬ y ≤ v := by omega
    simp (disch := omega) only [wpX_isNow, hiv, hl, e, e2, forall_eq, Nat.le_refl, rl_10, rl_n10, nI_leI, nI_ltI, nI_eq, vp_in_nI, nI_clamp, nI_1, nI_add, rl_lt0, rl_0le, rl_eq0, rl_eq1, rl_eq2, rl_m1, rl_m8, rl_m100, rl_vb0, rl_vb1, true_implies, forall_const, not_true_eq_false, not_false_eq_true, false_implies, and_true, true_and, implies_true, and_self]
    exact h1 e
  · have e2 : y ≤ v := by omega
    simp (disch := omega) only [wpX_isNow, hiv, hl, e, e2, forall_eq, Nat.le_refl, rl_10, rl_n10, nI_leI, nI_ltI, nI_eq, vp_in_nI, nI_clamp, nI_1, nI_add, rl_lt0, rl_0le, rl_eq0, rl_eq1, rl_eq2, rl_m1, rl_m8, rl_m100, rl_vb0, rl_vb1, true_implies, forall_const, not_true_eq_false, not_false_eq_true, false_implies, and_true, true_and, implies_true, and_self]
    exact h0 e
end
end
section
section
variable {n c m : Nat} {iv ct st sd rc si ri : Nat → Nat} {g : Nat → Nat → Nat}
variable {vX IV U CT NB SV ST SD RC PL SI RI LN ND SE : Nat → Int32}
theorem rx_start_l (hA : rl_A n c m iv ct g st sd rc si ri IV CT NB ST SD RC SI RI) {post : St2 → Prop} {T : Int32} (hpost : ∀ LN', (∀ q, q < n → LN' q = nI (rl_G ct g iv q (rl_tp ct T q))) → post (nI n, nI c, nI m, vX, IV, U, CT, NB, SV, ST, SD, RC, PL, SI, RI, LN', ND, SE)) :
    ∀ (fu p : Nat) (LN : Nat → Int32), n < fu + p → p ≤ n → (∀ q, q < p → LN q = nI (rl_G ct g iv q (rl_tp ct T q))) → wX_startLine_2 post T (nI n) (nI c) (nI m) fu (nI p) vX IV U CT NB SV ST SD RC PL SI RI LN ND SE := by
  have hA' := hA
  obtain ⟨hW, hIV, hCT, hNB, hST, hSD, hRC, hSI, hRI⟩ := hA'
  have hW' := hW
  obtain ⟨⟨⟨n2, n4⟩, ⟨c3, c8⟩, ⟨m4, m16⟩⟩, hS, hM, hB⟩ := hW'
  intro fu
  induction fu with
  | zero => intro p LN q1 q2; omega
  | succ fu ih =>
    intro p LN q1 q2 q3
    by_cases e : n ≤ p
    · simp (disch := omega) only [wX_startLine_2, e, forall_eq, Nat.le_refl, rl_10, rl_n10, nI_leI, nI_ltI, nI_eq, vp_in_nI, nI_clamp, nI_1, nI_add, rl_lt0, rl_0le, rl_eq0, rl_eq1, rl_eq2, rl_m1, rl_m8, rl_m100, rl_vb0, rl_vb1, true_implies, forall_const, not_true_eq_false, not_false_eq_true, false_implies, and_true, true_and, implies_true, and_self]
      exact hpost LN (fun q hq => q3 q (by omega))
    · have hp : p < n := by omega
      obtain ⟨s1, s2, s3, s4, s5⟩ := hS p hp
      by_cases l : (T &&& ((1 : Int32) <<< (nI p &&& 31))) = 0
      · have ht : rl_tp ct T p = ct p := if_pos l
        simp (disch := omega) only [wX_startLine_2, e, l, hIV, forall_eq, Nat.le_refl, rl_10, rl_n10, nI_leI, nI_ltI, nI_eq, vp_in_nI, nI_clamp, nI_1, nI_add, rl_lt0, rl_0le, rl_eq0, rl_eq1, rl_eq2, rl_m1, rl_m8, rl_m100, rl_vb0, rl_vb1, true_implies, forall_const, not_true_eq_false, not_false_eq_true, false_implies, and_true, true_and, implies_true, and_self]
        refine ih (p + 1) _ (by omega) (by omega) (fun q hq => ?_)
        by_cases qe : q = p
        · rw [qe, pk_us, ht, rl_G_now (by omega)]
        · rw [pk_un qe]; exact q3 q (by omega)
      · have ht : rl_tp ct T p = ct p - 1 := if_neg l
        have hg := s4 (ct p - 1) (by omega)
        simp (disch := omega) only [wX_startLine_2, e, l, forall_eq, Nat.le_refl, rl_10, rl_n10, nI_leI, nI_ltI, nI_eq, vp_in_nI, nI_clamp, nI_1, nI_add, rl_lt0, rl_0le, rl_eq0, rl_eq1, rl_eq2, rl_m1, rl_m8, rl_m100, rl_vb0, rl_vb1, true_implies, forall_const, not_true_eq_false, not_false_eq_true, false_implies, and_true, true_and, implies_true, and_self]
        refine rx_newest hA (k0 := ct p - 1) (b := 99) hp (by decide) (by omega) (by omega) (fun j hj _ => by omega) ?_
        try simp (disch := omega) only [forall_eq, Nat.le_refl, rl_10, rl_n10, nI_leI, nI_ltI, nI_eq, vp_in_nI, nI_clamp, nI_1, nI_add, rl_lt0, rl_0le, rl_eq0, rl_eq1, rl_eq2, rl_m1, rl_m8, rl_m100, rl_vb0, rl_vb1, true_implies, forall_const, not_true_eq_false, not_false_eq_true, false_implies, and_true, true_and, implies_true, and_self]
        refine ih (p + 1) _ (by omega) (by omega) (fun q hq => ?_)
        by_cases qe : q = p
        · rw [qe, pk_us, ht, rl_G_in (by omega)]
        · rw [pk_un qe]; exact q3 q (by omega)
theorem rx_start (hA : rl_A n c m iv ct g st sd rc si ri IV CT NB ST SD RC SI RI) {post : St2 → Prop} {T : Int32} (hpost : ∀ LN', (∀ q, q < n → LN' q = nI (rl_G ct g iv q (rl_tp ct T q))) → post (nI n, nI c, nI m, vX, IV, U, CT, NB, SV, ST, SD, RC, PL, SI, RI, LN', ND, SE)) :
    wpX_startLine post (nI n, nI c, nI m, vX, IV, U, CT, NB, SV, ST, SD, RC, PL, SI, RI, LN, ND, SE) T := by
  simp only [wpX_startLine]
  exact ⟨n + 1, rx_start_l hA hpost (n + 1) 0 LN (by omega) (by omega) (fun q hq => by omega)⟩
theorem rx_lower_l (hA : rl_A n c m iv ct g st sd rc si ri IV CT NB ST SD RC SI RI) {post : Int32 → St2 → Prop} {T : Int32} {L κ0 : Nat → Nat} (hL : rl_IsL n (rl_tp ct T) (rl_C m iv ct g st sd rc si ri) L)
    (hpost : ∀ (r : Int32) (LN' : Nat → Int32) (κ : Nat → Nat), (∀ q, q < n → LN' q = nI (rl_G ct g iv q (κ q))) → rl_le n κ (rl_tp ct T) → rl_le n L κ →
      ((r = 0 ∧ rl_C m iv ct g st sd rc si ri κ) ∨ (r = 1 ∧ rl_sum κ n < rl_sum κ0 n)) → post r (nI n, nI c, nI m, vX, IV, U, CT, NB, SV, ST, SD, RC, PL, SI, RI, LN', ND, SE)) :
    ∀ (fu s : Nat) (x1 : Int32) (LN : Nat → Int32) (κ : Nat → Nat), m < fu + s → s ≤ m → (∀ q, q < n → LN q = nI (rl_G ct g iv q (κ q))) → rl_le n κ (rl_tp ct T) → rl_le n L κ →
      ((x1 = 0 ∧ rl_sum κ n = rl_sum κ0 n ∧ ∀ j, j < s → st j = 2 → ri j < rl_G ct g iv (rc j) (κ (rc j)) → si j < rl_G ct g iv (sd j) (κ (sd j))) ∨ (x1 = 1 ∧ rl_sum κ n < rl_sum κ0 n)) →
      wX_lowerLine_4 post (nI n) (nI c) (nI m) fu x1 (nI s) vX IV U CT NB SV ST SD RC PL SI RI LN ND SE := by
  have hA' := hA
  obtain ⟨hW, hIV, hCT, hNB, hST, hSD, hRC, hSI, hRI⟩ := hA'
  have hW' := hW
  obtain ⟨⟨⟨n2, n4⟩, ⟨c3, c8⟩, ⟨m4, m16⟩⟩, hS, hM, hB⟩ := hW'
  intro fu
  induction fu with
  | zero => intro s x1 LN κ q1 q2; omega
  | succ fu ih =>
    intro s x1 LN κ q1 q2 q3 q4 q5 q6
    have hx1 : narrow .boolean (.int x1) = .int x1 := rl_nb01 (by rcases q6 with q | q; exact Or.inl q.1; exact Or.inr q.1)
    by_cases e : m ≤ s
    · simp (disch := omega) only [wX_lowerLine_4, e, hx1, forall_eq, Nat.le_refl, rl_10, rl_n10, nI_leI, nI_ltI, nI_eq, vp_in_nI, nI_clamp, nI_1, nI_add, rl_lt0, rl_0le, rl_eq0, rl_eq1, rl_eq2, rl_m1, rl_m8, rl_m100, rl_vb0, rl_vb1, true_implies, forall_const, not_true_eq_false, not_false_eq_true, false_implies, and_true, true_and, implies_true, and_self]
      refine hpost x1 LN κ q3 q4 q5 ?_
      rcases q6 with ⟨a, _, b⟩ | q
      · exact Or.inl ⟨a, fun j hj => b j (by omega)⟩
      · exact Or.inr q
    · have hs : s < m := by omega
      obtain ⟨t1, t2, t3, t4, t5⟩ := hM.1 s
      have h100 : ∀ p, p < n → rl_G ct g iv p (κ p) ≤ 100 := fun p hp => rl_G_100 hS (κ p) hp
      simp (disch := omega) only [wX_lowerLine_4, e, forall_eq, Nat.le_refl, rl_10, rl_n10, nI_leI, nI_ltI, nI_eq, vp_in_nI, nI_clamp, nI_1, nI_add, rl_lt0, rl_0le, rl_eq0, rl_eq1, rl_eq2, rl_m1, rl_m8, rl_m100, rl_vb0, rl_vb1, true_implies, forall_const, not_true_eq_false, not_false_eq_true, false_implies, and_true, true_and, implies_true, and_self]
      refine rx_orphan hA (x := fun p => rl_G ct g iv p (κ p)) hs q3 h100 (fun a1 a2 a3 => ?_) (fun a => ?_)
      · obtain ⟨k, b1, b2, b3, b4, b5, b6⟩ := rl_lowk hS hM hL q4 q5 hs a1 a2 a3
        simp (disch := omega) only [hRC, hRI, forall_eq, Nat.le_refl, rl_10, rl_n10, nI_leI, nI_ltI, nI_eq, vp_in_nI, nI_clamp, nI_1, nI_add, rl_lt0, rl_0le, rl_eq0, rl_eq1, rl_eq2, rl_m1, rl_m8, rl_m100, rl_vb0, rl_vb1, true_implies, forall_const, not_true_eq_false, not_false_eq_true, false_implies, and_true, true_and, implies_true, and_self]
        refine rx_newest hA (k0 := k) (b := ri s) t3 (by omega) b1 b2 b3 ?_
        try simp (disch := omega) only [forall_eq, Nat.le_refl, rl_10, rl_n10, nI_leI, nI_ltI, nI_eq, vp_in_nI, nI_clamp, nI_1, nI_add, rl_lt0, rl_0le, rl_eq0, rl_eq1, rl_eq2, rl_m1, rl_m8, rl_m100, rl_vb0, rl_vb1, true_implies, forall_const, not_true_eq_false, not_false_eq_true, false_implies, and_true, true_and, implies_true, and_self]
        refine ih (s + 1) _ _ (rl_u κ (rc s) k) (by omega) (by omega) (fun q hq => ?_) b4 b5 (Or.inr ⟨rfl, ?_⟩)
        · by_cases qe : q = rc s
          · rw [qe, pk_us, rl_us, rl_G_in b1]
          · rw [pk_un qe, rl_un qe]; exact q3 q hq
        · rcases q6 with ⟨_, b, _⟩ | q <;> omega
      · try simp (disch := omega) only [forall_eq, Nat.le_refl, rl_10, rl_n10, nI_leI, nI_ltI, nI_eq, vp_in_nI, nI_clamp, nI_1, nI_add, rl_lt0, rl_0le, rl_eq0, rl_eq1, rl_eq2, rl_m1, rl_m8, rl_m100, rl_vb0, rl_vb1, true_implies, forall_const, not_true_eq_false, not_false_eq_true, false_implies, and_true, true_and, implies_true, and_self]
        refine ih (s + 1) _ _ κ (by omega) (by omega) q3 q4 q5 ?_
        rcases q6 with ⟨d1, d2, d3⟩ | q
        · refine Or.inl ⟨d1, d2, fun j hj => ?_⟩
          by_cases qe : j = s
          · rw [qe]; exact a
          · exact d3 j (by omega)
        · exact Or.inr q
theorem rx_lower (hA : rl_A n c m iv ct g st sd rc si ri IV CT NB ST SD RC SI RI) {post : Int32 → St2 → Prop} {T : Int32} {L κ0 : Nat → Nat} (hL : rl_IsL n (rl_tp ct T) (rl_C m iv ct g st sd rc si ri) L)
    (h1 : ∀ q, q < n → LN q = nI (rl_G ct g iv q (κ0 q))) (h2 : rl_le n κ0 (rl_tp ct T)) (h3 : rl_le n L κ0)
    (hpost : ∀ (r : Int32) (LN' : Nat → Int32) (κ : Nat → Nat), (∀ q, q < n → LN' q = nI (rl_G ct g iv q (κ q))) → rl_le n κ (rl_tp ct T) → rl_le n L κ →
      ((r = 0 ∧ rl_C m iv ct g st sd rc si ri κ) ∨ (r = 1 ∧ rl_sum κ n < rl_sum κ0 n)) → post r (nI n, nI c, nI m, vX, IV, U, CT, NB, SV, ST, SD, RC, PL, SI, RI, LN', ND, SE)) :
    wpX_lowerLine post (nI n, nI c, nI m, vX, IV, U, CT, NB, SV, ST, SD, RC, PL, SI, RI, LN, ND, SE) := by
  simp only [wpX_lowerLine]
  exact ⟨m + 1, rx_lower_l hA hL hpost (m + 1) 0 0 LN κ0 (by omega) (by omega) h1 h2 h3 (Or.inl ⟨rfl, rfl, fun j hj => by omega⟩)⟩
theorem rx_find_l (hA : rl_A n c m iv ct g st sd rc si ri IV CT NB ST SD RC SI RI) {post : St2 → Prop} {T : Int32} {L : Nat → Nat} (hL : rl_IsL n (rl_tp ct T) (rl_C m iv ct g st sd rc si ri) L)
    (hpost : ∀ LN', (∀ q, q < n → LN' q = nI (rl_G ct g iv q (L q))) → post (nI n, nI c, nI m, vX, IV, U, CT, NB, SV, ST, SD, RC, PL, SI, RI, LN', ND, SE)) :
    ∀ (fu r : Nat) (x2 : Int32) (LN : Nat → Int32) (κ : Nat → Nat), 33 < fu + r → r ≤ 33 → (∀ q, q < n → LN q = nI (rl_G ct g iv q (κ q))) → rl_le n κ (rl_tp ct T) → rl_le n L κ →
      ((x2 = 0 ∧ rl_C m iv ct g st sd rc si ri κ) ∨ (x2 = 1 ∧ rl_sum κ n + r ≤ 32)) → wX_findLine_9 post fu x2 (nI r) (nI n) (nI c) (nI m) vX IV U CT NB SV ST SD RC PL SI RI LN ND SE := by
  intro fu
  induction fu with
  | zero => intro r x2 LN κ q1 q2; omega
  | succ fu ih =>
    intro r x2 LN κ q1 q2 q3 q4 q5 q6
    rcases q6 with ⟨a, b⟩ | ⟨a, b⟩
    · have hk := rl_IsL_uq hL q4 b q5
      simp (disch := omega) only [wX_findLine_9, a, forall_eq, Nat.le_refl, rl_10, rl_n10, nI_leI, nI_ltI, nI_eq, vp_in_nI, nI_clamp, nI_1, nI_add, rl_lt0, rl_0le, rl_eq0, rl_eq1, rl_eq2, rl_m1, rl_m8, rl_m100, rl_vb0, rl_vb1, true_implies, forall_const, not_true_eq_false, not_false_eq_true, false_implies, and_true, true_and, implies_true, and_self]
      exact hpost LN (fun q hq => by rw [← hk q hq]; exact q3 q hq)
    · have h33 : ¬ 33 ≤ r := by omega
      have h10 : ¬ (1 : Int32) = 0 := by decide
      simp (disch := omega) only [wX_findLine_9, a, h33, h10, rl_33, forall_eq, Nat.le_refl, rl_10, rl_n10, nI_leI, nI_ltI, nI_eq, vp_in_nI, nI_clamp, nI_1, nI_add, rl_lt0, rl_0le, rl_eq0, rl_eq1, rl_eq2, rl_m1, rl_m8, rl_m100, rl_vb0, rl_vb1, true_implies, forall_const, not_true_eq_false, not_false_eq_true, false_implies, and_true, true_and, implies_true, and_self]
      refine rx_lower hA hL q3 q4 q5 (fun r2 LN2 κ2 c1 c2 c3 c4 => ?_)
      try simp (disch := omega) only [forall_eq, Nat.le_refl, rl_10, rl_n10, nI_leI, nI_ltI, nI_eq, vp_in_nI, nI_clamp, nI_1, nI_add, rl_lt0, rl_0le, rl_eq0, rl_eq1, rl_eq2, rl_m1, rl_m8, rl_m100, rl_vb0, rl_vb1, true_implies, forall_const, not_true_eq_false, not_false_eq_true, false_implies, and_true, true_and, implies_true, and_self]
      refine ih (r + 1) _ _ κ2 (by omega) (by omega) c1 c2 c3 ?_
      rcases c4 with c4 | c4
      · exact Or.inl c4
      · exact Or.inr ⟨c4.1, by omega⟩
theorem rx_find (hA : rl_A n c m iv ct g st sd rc si ri IV CT NB ST SD RC SI RI) {post : St2 → Prop} {T : Int32} {L : Nat → Nat} (hL : rl_IsL n (rl_tp ct T) (rl_C m iv ct g st sd rc si ri) L)
    (hpost : ∀ LN', (∀ q, q < n → LN' q = nI (rl_G ct g iv q (L q))) → post (nI n, nI c, nI m, vX, IV, U, CT, NB, SV, ST, SD, RC, PL, SI, RI, LN', ND, SE)) : wpX_findLine post (nI n, nI c, nI m, vX, IV, U, CT, NB, SV, ST, SD, RC, PL, SI, RI, LN, ND, SE) T := by
  have hA' := hA
  obtain ⟨hW, hIV, hCT, hNB, hST, hSD, hRC, hSI, hRI⟩ := hA'
  have hW' := hW
  obtain ⟨⟨⟨n2, n4⟩, ⟨c3, c8⟩, ⟨m4, m16⟩⟩, hS, hM, hB⟩ := hW'
  simp only [wpX_findLine]
  refine rx_start hA (fun LN1 h1 => ?_)
  have hsum : rl_sum (rl_tp ct T) n ≤ 32 := by
    have a1 := rl_sum_le (a := rl_tp ct T) (b := fun _ => 8) n (fun p hp => by have := rl_tp_le ct T p; have := (hS p hp).2.1; show rl_tp ct T p ≤ 8; omega)
    rw [rl_sum_c] at a1
    omega
  exact ⟨34, rx_find_l hA hL hpost 34 0 1 LN1 (rl_tp ct T) (by omega) (by omega) h1 (fun p _ => Nat.le_refl _) hL.1 (Or.inr ⟨rfl, by omega⟩)⟩
end
end
section
/-- 1 where a message is received -/
def rl_r2 (st : Nat → Nat) : Nat → Int32 := fun s => if st s = 2 then 1 else 0
section
variable {n c m : Nat} {iv ct st sd rc si ri : Nat → Nat} {g : Nat → Nat → Nat}
variable {vX IV U CT NB SV ST SD RC PL SI RI LN ND SE : Nat → Int32}
theorem rx_clear2_l (hA : rl_A n c m iv ct g st sd rc si ri IV CT NB ST SD RC SI RI) {post : St2 → Prop} (hpost : post (nI n, nI c, nI m, vX, IV, U, CT, NB, SV, ST, SD, RC, PL, SI, RI, LN, ND, rl_mix m (rl_r2 st) SE)) :
    ∀ (fu s : Nat), m < fu + s → s ≤ m → wX_clearMarks_23 post (nI n) (nI c) (nI m) fu (nI s) vX IV U CT NB SV ST SD RC PL SI RI LN ND (rl_mix s (rl_r2 st) SE) := by
  have hA' := hA
  obtain ⟨hW, hIV, hCT, hNB, hST, hSD, hRC, hSI, hRI⟩ := hA'
  have hW' := hW
  obtain ⟨⟨⟨n2, n4⟩, ⟨c3, c8⟩, ⟨m4, m16⟩⟩, hS, hM, hB⟩ := hW'
  intro fu
  induction fu with
  | zero => intro s q1 q2; omega
  | succ fu ih =>
    intro s q1 q2
    obtain ⟨t1, t2, t3, t4, t5⟩ := hM.1 s
    by_cases e : m ≤ s
    · have e2 : s = m := by omega
      simp (disch := omega) only [wX_clearMarks_23, e, forall_eq, Nat.le_refl, rl_10, rl_n10, nI_leI, nI_ltI, nI_eq, vp_in_nI, nI_clamp, nI_1, nI_add, rl_lt0, rl_0le, rl_eq0, rl_eq1, rl_eq2, rl_m1, rl_m8, rl_m100, rl_vb0, rl_vb1, true_implies, forall_const, not_true_eq_false, not_false_eq_true, false_implies, and_true, true_and, implies_true, and_self]
      rw [e2]; exact hpost
    · by_cases l : st s = 2
      · have hr : (1 : Int32) = rl_r2 st s := (if_pos l).symm
        have := ih (s + 1) (by omega) (by omega)
        rw [← rl_mix_s hr] at this
        simp (disch := omega) only [wX_clearMarks_23, e, hST, l, forall_eq, Nat.le_refl, rl_10, rl_n10, nI_leI, nI_ltI, nI_eq, vp_in_nI, nI_clamp, nI_1, nI_add, rl_lt0, rl_0le, rl_eq0, rl_eq1, rl_eq2, rl_m1, rl_m8, rl_m100, rl_vb0, rl_vb1, true_implies, forall_const, not_true_eq_false, not_false_eq_true, false_implies, and_true, true_and, implies_true, and_self]
        exact this
      · have hr : (0 : Int32) = rl_r2 st s := (if_neg l).symm
        have := ih (s + 1) (by omega) (by omega)
        rw [← rl_mix_s hr] at this
        simp (disch := omega) only [wX_clearMarks_23, e, hST, l, forall_eq, Nat.le_refl, rl_10, rl_n10, nI_leI, nI_ltI, nI_eq, vp_in_nI, nI_clamp, nI_1, nI_add, rl_lt0, rl_0le, rl_eq0, rl_eq1, rl_eq2, rl_m1, rl_m8, rl_m100, rl_vb0, rl_vb1, true_implies, forall_const, not_true_eq_false, not_false_eq_true, false_implies, and_true, true_and, implies_true, and_self]
        exact this
theorem rx_clear1_l (hA : rl_A n c m iv ct g st sd rc si ri IV CT NB ST SD RC SI RI) {post : St2 → Prop} (hpost : post (nI n, nI c, nI m, vX, IV, U, CT, NB, SV, ST, SD, RC, PL, SI, RI, LN, rl_mix 32 (fun _ => 0) ND, rl_mix m (rl_r2 st) SE)) :
    ∀ (fu i : Nat), 32 < fu + i → i ≤ 32 → wX_clearMarks_2 post (nI n) (nI c) (nI m) fu (nI i) vX IV U CT NB SV ST SD RC PL SI RI LN (rl_mix i (fun _ => 0) ND) SE := by
  intro fu
  induction fu with
  | zero => intro i q1 q2; omega
  | succ fu ih =>
    intro i q1 q2
    by_cases e : 32 ≤ i
    · have e2 : i = 32 := by omega
      subst e2
      simp (disch := omega) only [wX_clearMarks_2, e, rl_32, forall_eq, Nat.le_refl, rl_10, rl_n10, nI_leI, nI_ltI, nI_eq, vp_in_nI, nI_clamp, nI_1, nI_add, rl_lt0, rl_0le, rl_eq0, rl_eq1, rl_eq2, rl_m1, rl_m8, rl_m100, rl_vb0, rl_vb1, true_implies, forall_const, not_true_eq_false, not_false_eq_true, false_implies, and_true, true_and, implies_true, and_self]
      have := rx_clear2_l (ND := rl_mix 32 (fun _ => 0) ND) hA hpost (m + 1) 0 (by omega) (by omega)
      rw [rl_mix_0] at this
      exact ⟨_, this⟩
    · have := ih (i + 1) (by omega) (by omega)
      rw [← rl_mix_s (x := 0) rfl] at this
      simp (disch := omega) only [wX_clearMarks_2, e, rl_32, forall_eq, Nat.le_refl, rl_10, rl_n10, nI_leI, nI_ltI, nI_eq, vp_in_nI, nI_clamp, nI_1, nI_add, rl_lt0, rl_0le, rl_eq0, rl_eq1, rl_eq2, rl_m1, rl_m8, rl_m100, rl_vb0, rl_vb1, true_implies, forall_const, not_true_eq_false, not_false_eq_true, false_implies, and_true, true_and, implies_true, and_self]
      exact this
theorem rx_clear (hA : rl_A n c m iv ct g st sd rc si ri IV CT NB ST SD RC SI RI) {post : St2 → Prop} (hpost : post (nI n, nI c, nI m, vX, IV, U, CT, NB, SV, ST, SD, RC, PL, SI, RI, LN, rl_mix 32 (fun _ => 0) ND, rl_mix m (rl_r2 st) SE)) : wpX_clearMarks post (nI n, nI c, nI m, vX, IV, U, CT, NB, SV, ST, SD, RC, PL, SI, RI, LN, ND, SE) := by
  simp only [wpX_clearMarks]
  have := rx_clear1_l hA hpost 33 0 (by omega) (by omega)
  rw [rl_mix_0] at this
  exact ⟨_, this⟩
theorem rx_markN_l (hA : rl_A n c m iv ct g st sd rc si ri IV CT NB ST SD RC SI RI) {post : St2 → Prop} {κ : Nat → Nat} (hx : ∀ p, p < n → LN p = nI (rl_G ct g iv p (κ p))) (hκ : rl_le n κ ct) {ND0 : Nat → Int32}
    (hpost : ∀ ND', (∀ p, p < n → ∀ k, k < ct p → (¬ ND' (p * 8 + k) = 0 ↔ ¬ ND0 (p * 8 + k) = 0 ∨ κ p = k)) → post (nI n, nI c, nI m, vX, IV, U, CT, NB, SV, ST, SD, RC, PL, SI, RI, LN, ND', SE)) :
    ∀ (fu i : Nat) (ND : Nat → Int32), n < fu + i → i ≤ n → (∀ p, p < n → ∀ k, k < ct p → (¬ ND (p * 8 + k) = 0 ↔ ¬ ND0 (p * 8 + k) = 0 ∨ (p < i ∧ κ p = k))) →
      wX_markNeededByLine_2 post (nI n) (nI c) (nI m) fu (nI i) vX IV U CT NB SV ST SD RC PL SI RI LN ND SE := by
  have hA' := hA
  obtain ⟨hW, hIV, hCT, hNB, hST, hSD, hRC, hSI, hRI⟩ := hA'
  have hW' := hW
  obtain ⟨⟨⟨n2, n4⟩, ⟨c3, c8⟩, ⟨m4, m16⟩⟩, hS, hM, hB⟩ := hW'
  intro fu
  induction fu with
  | zero => intro i ND q1 q2; omega
  | succ fu ih =>
    intro i ND q1 q2 q3
    by_cases e : n ≤ i
    · simp (disch := omega) only [wX_markNeededByLine_2, e, forall_eq, Nat.le_refl, rl_10, rl_n10, nI_leI, nI_ltI, nI_eq, vp_in_nI, nI_clamp, nI_1, nI_add, rl_lt0, rl_0le, rl_eq0, rl_eq1, rl_eq2, rl_m1, rl_m8, rl_m100, rl_vb0, rl_vb1, true_implies, forall_const, not_true_eq_false, not_false_eq_true, false_implies, and_true, true_and, implies_true, and_self]
      refine hpost ND (fun p hp k hk => ?_)
      rw [q3 p hp k hk]
      constructor
      · rintro (h | h)
        · exact Or.inl h
        · exact Or.inr h.2
      · rintro (h | h)
        · exact Or.inl h
        · exact Or.inr ⟨by omega, h⟩
    · have hi : i < n := by omega
      obtain ⟨s1, s2, s3, s4, s5⟩ := hS i hi
      have hki := hκ i hi
      have h100 := rl_G_100 hS (κ i) hi
      simp (disch := omega) only [wX_markNeededByLine_2, e, forall_eq, Nat.le_refl, rl_10, rl_n10, nI_leI, nI_ltI, nI_eq, vp_in_nI, nI_clamp, nI_1, nI_add, rl_lt0, rl_0le, rl_eq0, rl_eq1, rl_eq2, rl_m1, rl_m8, rl_m100, rl_vb0, rl_vb1, true_implies, forall_const, not_true_eq_false, not_false_eq_true, false_implies, and_true, true_and, implies_true, and_self]
      refine rx_cellOf (K := ct i) (gp := g i) (by omega) (by omega) (hCT i) (hNB i hi) (fun k hk ek => ?_) (fun ek => ?_)
      · have hgk := s4 k hk
        rw [hx i hi] at ek
        have ek2 : g i k = rl_G ct g iv i (κ i) := (nI_eq (by omega) (by omega)).mp ek
        have ek3 : k = κ i := rl_G_inj hS hi (by omega) hki (by rw [rl_G_in hk]; exact ek2)
        have hne := rl_ne4 (a := i * 8 + k) (by omega)
        simp (disch := omega) only [hne, forall_eq, Nat.le_refl, rl_10, rl_n10, nI_leI, nI_ltI, nI_eq, vp_in_nI, nI_clamp, nI_1, nI_add, rl_lt0, rl_0le, rl_eq0, rl_eq1, rl_eq2, rl_m1, rl_m8, rl_m100, rl_vb0, rl_vb1, true_implies, forall_const, not_true_eq_false, not_false_eq_true, false_implies, and_true, true_and, implies_true, and_self]
        refine ih (i + 1) _ (by omega) (by omega) (fun p hp j hj => ?_)
        have hcp := (hS p hp).2.1
        by_cases qe : p * 8 + j = i * 8 + k
        · have e1 : p = i := by omega
          have e2 : j = k := by omega
          rw [qe, pk_us, e1, e2]
          exact ⟨fun _ => Or.inr ⟨by omega, ek3.symm⟩, fun _ => by decide⟩
        · rw [pk_un qe, q3 p hp j hj]
          constructor
          · rintro (h | h)
            · exact Or.inl h
            · exact Or.inr ⟨by omega, h.2⟩
          · rintro (h | h)
            · exact Or.inl h
            · refine Or.inr ⟨?_, h.2⟩
              by_cases pe : p = i
              · exfalso; rw [pe] at h; rw [pe] at qe; omega
              · omega
      · have hk2 : ¬ κ i < ct i := by
          intro z
          refine ek (κ i) z ?_
          rw [hx i hi, rl_G_in z]
        try simp (disch := omega) only [forall_eq, Nat.le_refl, rl_10, rl_n10, nI_leI, nI_ltI, nI_eq, vp_in_nI, nI_clamp, nI_1, nI_add, rl_lt0, rl_0le, rl_eq0, rl_eq1, rl_eq2, rl_m1, rl_m8, rl_m100, rl_vb0, rl_vb1, true_implies, forall_const, not_true_eq_false, not_false_eq_true, false_implies, and_true, true_and, implies_true, and_self]
        refine ih (i + 1) _ (by omega) (by omega) (fun p hp j hj => ?_)
        rw [q3 p hp j hj]
        constructor
        · rintro (h | h)
          · exact Or.inl h
          · exact Or.inr ⟨by omega, h.2⟩
        · rintro (h | h)
          · exact Or.inl h
          · refine Or.inr ⟨?_, h.2⟩
            by_cases pe : p = i
            · exfalso; rw [pe] at h hj; omega
            · omega
theorem rx_markN (hA : rl_A n c m iv ct g st sd rc si ri IV CT NB ST SD RC SI RI) {post : St2 → Prop} {κ : Nat → Nat} (hx : ∀ p, p < n → LN p = nI (rl_G ct g iv p (κ p))) (hκ : rl_le n κ ct)
    (hpost : ∀ ND', (∀ p, p < n → ∀ k, k < ct p → (¬ ND' (p * 8 + k) = 0 ↔ ¬ ND (p * 8 + k) = 0 ∨ κ p = k)) → post (nI n, nI c, nI m, vX, IV, U, CT, NB, SV, ST, SD, RC, PL, SI, RI, LN, ND', SE)) : wpX_markNeededByLine post (nI n, nI c, nI m, vX, IV, U, CT, NB, SV, ST, SD, RC, PL, SI, RI, LN, ND, SE) := by
  simp only [wpX_markNeededByLine]
  exact ⟨n + 1, rx_markN_l hA hx hκ hpost (n + 1) 0 ND (by omega) (by omega) (fun p hp k hk => ⟨fun h => Or.inl h, fun h => by rcases h with h | h; exact h; exact absurd h.1 (by omega)⟩)⟩
theorem rx_unm_l (hA : rl_A n c m iv ct g st sd rc si ri IV CT NB ST SD RC SI RI) {post : St2 → Prop} {x : Nat → Nat} (hx : ∀ p, p < n → LN p = nI (x p)) (h100 : ∀ p, p < n → x p ≤ 100) {SE0 : Nat → Int32}
    (hpost : ∀ SE', (∀ s, s < m → (¬ SE' s = 0 ↔ ¬ SE0 s = 0 ∧ ri s < x (rc s))) → post (nI n, nI c, nI m, vX, IV, U, CT, NB, SV, ST, SD, RC, PL, SI, RI, LN, ND, SE')) :
    ∀ (fu i : Nat) (SE : Nat → Int32), m < fu + i → i ≤ m → (∀ s, s < m → (¬ SE s = 0 ↔ ¬ SE0 s = 0 ∧ (s < i → ri s < x (rc s)))) →
      wX_unmarkUnsettledByLine_2 post (nI n) (nI c) (nI m) fu (nI i) vX IV U CT NB SV ST SD RC PL SI RI LN ND SE := by
  have hA' := hA
  obtain ⟨hW, hIV, hCT, hNB, hST, hSD, hRC, hSI, hRI⟩ := hA'
  have hW' := hW
  obtain ⟨⟨⟨n2, n4⟩, ⟨c3, c8⟩, ⟨m4, m16⟩⟩, hS, hM, hB⟩ := hW'
  intro fu
  induction fu with
  | zero => intro i SE q1 q2; omega
  | succ fu ih =>
    intro i SE q1 q2 q3
    by_cases e : m ≤ i
    · simp (disch := omega) only [wX_unmarkUnsettledByLine_2, e, forall_eq, Nat.le_refl, rl_10, rl_n10, nI_leI, nI_ltI, nI_eq, vp_in_nI, nI_clamp, nI_1, nI_add, rl_lt0, rl_0le, rl_eq0, rl_eq1, rl_eq2, rl_m1, rl_m8, rl_m100, rl_vb0, rl_vb1, true_implies, forall_const, not_true_eq_false, not_false_eq_true, false_implies, and_true, true_and, implies_true, and_self]
      refine hpost SE (fun s hs => ?_)
      rw [q3 s hs]
      exact ⟨fun h => ⟨h.1, h.2 (by omega)⟩, fun h => ⟨h.1, fun _ => h.2⟩⟩
    · have hi : i < m := by omega
      have keep : (¬ SE i = 0 → ri i < x (rc i)) → ∀ s, s < m → (¬ SE s = 0 ↔ ¬ SE0 s = 0 ∧ (s < i + 1 → ri s < x (rc s))) := by
        intro hh s hs
        by_cases qe : s = i
        · rw [qe]
          constructor
          · intro h; exact ⟨((q3 i hi).mp h).1, fun _ => hh h⟩
          · intro h; exact (q3 i hi).mpr ⟨h.1, fun z => absurd z (by omega)⟩
        · rw [q3 s hs]
          exact ⟨fun h => ⟨h.1, fun z => h.2 (by omega)⟩, fun h => ⟨h.1, fun z => h.2 (by omega)⟩⟩
      by_cases l : SE i = 0
      · simp (disch := omega) only [wX_unmarkUnsettledByLine_2, e, l, forall_eq, Nat.le_refl, rl_10, rl_n10, nI_leI, nI_ltI, nI_eq, vp_in_nI, nI_clamp, nI_1, nI_add, rl_lt0, rl_0le, rl_eq0, rl_eq1, rl_eq2, rl_m1, rl_m8, rl_m100, rl_vb0, rl_vb1, true_implies, forall_const, not_true_eq_false, not_false_eq_true, false_implies, and_true, true_and, implies_true, and_self]
        exact ih (i + 1) _ (by omega) (by omega) (keep (fun z => absurd l z))
      · simp (disch := omega) only [wX_unmarkUnsettledByLine_2, e, l, forall_eq, Nat.le_refl, rl_10, rl_n10, nI_leI, nI_ltI, nI_eq, vp_in_nI, nI_clamp, nI_1, nI_add, rl_lt0, rl_0le, rl_eq0, rl_eq1, rl_eq2, rl_m1, rl_m8, rl_m100, rl_vb0, rl_vb1, true_implies, forall_const, not_true_eq_false, not_false_eq_true, false_implies, and_true, true_and, implies_true, and_self]
        refine rx_recInc (rl_Q_of hA) hi hx h100 (fun a => ?_) (fun a => ?_)
        · have h10 : ¬ (1 : Int32) = 0 := by decide
          simp (disch := omega) only [h10, forall_eq, Nat.le_refl, rl_10, rl_n10, nI_leI, nI_ltI, nI_eq, vp_in_nI, nI_clamp, nI_1, nI_add, rl_lt0, rl_0le, rl_eq0, rl_eq1, rl_eq2, rl_m1, rl_m8, rl_m100, rl_vb0, rl_vb1, true_implies, forall_const, not_true_eq_false, not_false_eq_true, false_implies, and_true, true_and, implies_true, and_self]
          exact ih (i + 1) _ (by omega) (by omega) (keep (fun _ => a))
        · try simp (disch := omega) only [forall_eq, Nat.le_refl, rl_10, rl_n10, nI_leI, nI_ltI, nI_eq, vp_in_nI, nI_clamp, nI_1, nI_add, rl_lt0, rl_0le, rl_eq0, rl_eq1, rl_eq2, rl_m1, rl_m8, rl_m100, rl_vb0, rl_vb1, true_implies, forall_const, not_true_eq_false, not_false_eq_true, false_implies, and_true, true_and, implies_true, and_self]
          refine ih (i + 1) _ (by omega) (by omega) (fun s hs => ?_)
          by_cases qe : s = i
          · rw [qe, pk_us]
            exact ⟨fun z => absurd rfl z, fun z => absurd (z.2 (by omega)) a⟩
          · rw [pk_un qe, q3 s hs]
            exact ⟨fun h => ⟨h.1, fun z => h.2 (by omega)⟩, fun h => ⟨h.1, fun z => h.2 (by omega)⟩⟩
theorem rx_unm (hA : rl_A n c m iv ct g st sd rc si ri IV CT NB ST SD RC SI RI) {post : St2 → Prop} {x : Nat → Nat} (hx : ∀ p, p < n → LN p = nI (x p)) (h100 : ∀ p, p < n → x p ≤ 100)
    (hpost : ∀ SE', (∀ s, s < m → (¬ SE' s = 0 ↔ ¬ SE s = 0 ∧ ri s < x (rc s))) → post (nI n, nI c, nI m, vX, IV, U, CT, NB, SV, ST, SD, RC, PL, SI, RI, LN, ND, SE')) : wpX_unmarkUnsettledByLine post (nI n, nI c, nI m, vX, IV, U, CT, NB, SV, ST, SD, RC, PL, SI, RI, LN, ND, SE) := by
  simp only [wpX_unmarkUnsettledByLine]
  exact ⟨m + 1, rx_unm_l hA hx h100 hpost (m + 1) 0 SE (by omega) (by omega) (fun s hs => ⟨fun h => ⟨h, fun z => absurd z (by omega)⟩, fun h => h.1⟩)⟩
theorem rl_16 {n : Nat} (h : n ≤ 4) : 2 ^ n ≤ 16 := by
  have : n = 0 ∨ n = 1 ∨ n = 2 ∨ n = 3 ∨ n = 4 := by omega
  rcases this with e | e | e | e | e <;> subst e <;> decide
theorem rx_mns_l (hA : rl_A n c m iv ct g st sd rc si ri IV CT NB ST SD RC SI RI) {post : St2 → Prop} {Ls : Int32 → Nat → Nat} (hL : ∀ T, rl_IsL n (rl_tp ct T) (rl_C m iv ct g st sd rc si ri) (Ls T)) {D : Int32}
    (hpost : ∀ LN' ND' SE', (∀ p, p < n → ∀ k, k < ct p → (¬ ND' (p * 8 + k) = 0 ↔ rl_Nd D Ls (2 ^ n) p k)) →
      (∀ s, s < m → (¬ SE' s = 0 ↔ rl_Se D (fun T p => rl_G ct g iv p (Ls T p)) st rc ri (2 ^ n) s)) → post (nI n, nI c, nI m, vX, IV, U, CT, NB, SV, ST, SD, RC, PL, SI, RI, LN', ND', SE')) :
    ∀ (fu J : Nat) (LN ND SE : Nat → Int32), 2 ^ n < fu + J → J ≤ 2 ^ n → (∀ p, p < n → ∀ k, k < ct p → (¬ ND (p * 8 + k) = 0 ↔ rl_Nd D Ls J p k)) →
      (∀ s, s < m → (¬ SE s = 0 ↔ rl_Se D (fun T p => rl_G ct g iv p (Ls T p)) st rc ri J s)) → wX_markNeededAndSettled_11 post D fu (nI J) (nI n) (nI c) (nI m) vX IV U CT NB SV ST SD RC PL SI RI LN ND SE := by
  have hA' := hA
  obtain ⟨hW, hIV, hCT, hNB, hST, hSD, hRC, hSI, hRI⟩ := hA'
  have hW' := hW
  obtain ⟨⟨⟨n2, n4⟩, ⟨c3, c8⟩, ⟨m4, m16⟩⟩, hS, hM, hB⟩ := hW'
  have h16 := rl_16 n4
  have h1n := rl_1n n2 n4
  intro fu
  induction fu with
  | zero => intro J LN ND SE q1 q2; omega
  | succ fu ih =>
    intro J LN ND SE q1 q2 q3 q4
    by_cases e : 2 ^ n ≤ J
    · have e2 : J = 2 ^ n := by omega
      simp (disch := omega) only [wX_markNeededAndSettled_11, h1n, e, forall_eq, Nat.le_refl, rl_10, rl_n10, nI_leI, nI_ltI, nI_eq, vp_in_nI, nI_clamp, nI_1, nI_add, rl_lt0, rl_0le, rl_eq0, rl_eq1, rl_eq2, rl_m1, rl_m8, rl_m100, rl_vb0, rl_vb1, true_implies, forall_const, not_true_eq_false, not_false_eq_true, false_implies, and_true, true_and, implies_true, and_self]
      rw [e2] at q3 q4
      exact hpost LN ND SE q3 q4
    · by_cases l : (nI J &&& D) = D
      · simp (disch := omega) only [wX_markNeededAndSettled_11, h1n, e, l, forall_eq, Nat.le_refl, rl_10, rl_n10, nI_leI, nI_ltI, nI_eq, vp_in_nI, nI_clamp, nI_1, nI_add, rl_lt0, rl_0le, rl_eq0, rl_eq1, rl_eq2, rl_m1, rl_m8, rl_m100, rl_vb0, rl_vb1, true_implies, forall_const, not_true_eq_false, not_false_eq_true, false_implies, and_true, true_and, implies_true, and_self]
        refine rx_find hA (hL (nI J)) (fun LN1 r1 => ?_)
        try dsimp only
        refine rx_markN hA r1 (fun p hp => Nat.le_trans ((hL (nI J)).1 p hp) (rl_tp_le ct _ p)) (fun ND1 r2 => ?_)
        try dsimp only
        refine rx_unm hA (x := fun p => rl_G ct g iv p (Ls (nI J) p)) r1 (fun p hp => rl_G_100 hS _ hp) (fun SE1 r3 => ?_)
        try dsimp only
        try simp (disch := omega) only [forall_eq, Nat.le_refl, rl_10, rl_n10, nI_leI, nI_ltI, nI_eq, vp_in_nI, nI_clamp, nI_1, nI_add, rl_lt0, rl_0le, rl_eq0, rl_eq1, rl_eq2, rl_m1, rl_m8, rl_m100, rl_vb0, rl_vb1, true_implies, forall_const, not_true_eq_false, not_false_eq_true, false_implies, and_true, true_and, implies_true, and_self]
        refine ih (J + 1) _ _ _ (by omega) (by omega) (fun p hp k hk => ?_) (fun s hs => ?_)
        · rw [r2 p hp k hk, rl_Nd_t l, q3 p hp k hk]
        · rw [r3 s hs, rl_Se_t l, q4 s hs]
      · simp (disch := omega) only [wX_markNeededAndSettled_11, h1n, e, l, forall_eq, Nat.le_refl, rl_10, rl_n10, nI_leI, nI_ltI, nI_eq, vp_in_nI, nI_clamp, nI_1, nI_add, rl_lt0, rl_0le, rl_eq0, rl_eq1, rl_eq2, rl_m1, rl_m8, rl_m100, rl_vb0, rl_vb1, true_implies, forall_const, not_true_eq_false, not_false_eq_true, false_implies, and_true, true_and, implies_true, and_self]
        refine ih (J + 1) _ _ _ (by omega) (by omega) (fun p hp k hk => ?_) (fun s hs => ?_)
        · rw [rl_Nd_f l, q3 p hp k hk]
        · rw [rl_Se_f l, q4 s hs]
theorem rx_mns (hA : rl_A n c m iv ct g st sd rc si ri IV CT NB ST SD RC SI RI) {post : St2 → Prop} {Ls : Int32 → Nat → Nat} (hL : ∀ T, rl_IsL n (rl_tp ct T) (rl_C m iv ct g st sd rc si ri) (Ls T))
    (hpost : ∀ LN' ND' SE', (∀ p, p < n → ∀ k, k < ct p → (¬ ND' (p * 8 + k) = 0 ↔ rl_Nd (rl_or (rl_dn U) n) Ls (2 ^ n) p k)) →
      (∀ s, s < m → (¬ SE' s = 0 ↔ rl_Se (rl_or (rl_dn U) n) (fun T p => rl_G ct g iv p (Ls T p)) st rc ri (2 ^ n) s)) → post (nI n, nI c, nI m, vX, IV, U, CT, NB, SV, ST, SD, RC, PL, SI, RI, LN', ND', SE')) :
    wpX_markNeededAndSettled post (nI n, nI c, nI m, vX, IV, U, CT, NB, SV, ST, SD, RC, PL, SI, RI, LN, ND, SE) := by
  have hA' := hA
  obtain ⟨hW, hIV, hCT, hNB, hST, hSD, hRC, hSI, hRI⟩ := hA'
  have hW' := hW
  obtain ⟨⟨⟨n2, n4⟩, ⟨c3, c8⟩, ⟨m4, m16⟩⟩, hS, hM, hB⟩ := hW'
  simp only [wpX_markNeededAndSettled]
  refine rx_clear hA ?_
  try dsimp only
  refine rx_down n4 ?_
  try dsimp only
  refine ⟨2 ^ n + 1, rx_mns_l hA hL hpost (2 ^ n + 1) 0 LN _ _ (Nat.lt_succ_self _) (Nat.zero_le _) (fun p hp k hk => ?_) (fun s hs => ?_)⟩
  · have := (hS p hp).2.1
    rw [rl_mix_lt (by omega)]
    exact ⟨fun z => absurd rfl z, fun z => absurd z rl_Nd_0⟩
  · rw [rl_mix_lt hs, rl_Se_0]
    unfold rl_r2
    by_cases l : st s = 2
    · rw [if_pos l]; exact ⟨fun _ => l, fun _ => by decide⟩
    · rw [if_neg l]; exact ⟨fun z => absurd rfl z, fun z => absurd z l⟩
end
end
section
def rl_nd (ND : Nat → Int32) (p k : Nat) : Bool := decide (¬ ND (p * 8 + k) = 0)
/-- the flags of an array -/
def rl_nz (SE : Nat → Int32) : Nat → Bool := fun s => decide (¬ SE s = 0)
/-- the slots that are marked are emptied -/
def rl_cl (SE ST : Nat → Int32) : Nat → Int32 := fun s => if SE s = 0 then ST s else 0
theorem rl_SubEx (nd : Nat → Bool) : ∀ k, ∃ f, rl_Sub nd k (rl_cn nd k) f := by
  intro k
  induction k with
  | zero => exact ⟨fun _ => 0, rl_Sub_0 nd _⟩
  | succ k ih =>
    obtain ⟨f, hf⟩ := ih
    by_cases e : nd k = true
    · exact ⟨_, by rw [rl_cn_t e]; exact rl_Sub_t hf e⟩
    · exact ⟨_, by rw [rl_cn_f e]; exact rl_Sub_f hf e⟩
theorem rl_Sub_at {nd : Nat → Bool} {K kept k : Nat} {f : Nat → Nat} (h : rl_Sub nd K kept f) (hk : k < K) (e : nd k = true) : rl_cn nd k < kept ∧ f (rl_cn nd k) = k := by
  obtain ⟨h1, h2, h3, h4⟩ := h
  obtain ⟨j, hj, ej⟩ := h3 k hk e
  have hc : rl_cn nd (f j) = j := by
    refine rl_cn_enum (f j) j (h := f) (fun a b hab hb => h2 a b hab (by omega)) (fun a ha => h2 a j ha hj) (fun i hi => ?_)
    constructor
    · intro hn
      obtain ⟨l, hl, el⟩ := h3 i (by omega) hn
      refine ⟨l, ?_, el⟩
      rcases Nat.lt_trichotomy l j with q | q | q
      · exact q
      · rw [q] at el; omega
      · have := h2 j l q hl; omega
    · rintro ⟨l, hl, el⟩
      rw [← el]
      exact (h1 l (by omega)).2
  rw [ej] at hc
  rw [hc]
  exact ⟨hj, ej⟩
section
variable {n c m : Nat} {iv ct st sd rc si ri : Nat → Nat} {g : Nat → Nat → Nat}
variable {vX IV U CT NB SV ST SD RC PL SI RI LN ND SE : Nat → Int32}
theorem rx_drop_l {post : Int32 → St2 → Prop} {p K : Nat} (hp : p < 4) (hK : K ≤ 8) {f : Nat → Nat} (hf : rl_Sub (rl_nd ND p) K (rl_cn (rl_nd ND p) K) f) {NB0 SV0 : Nat → Int32}
    (hpost : ∀ NB' SV', (∀ j, j < rl_cn (rl_nd ND p) K → NB' (p * 8 + j) = NB0 (p * 8 + f j) ∧ SV' (p * 8 + j) = SV0 (p * 8 + f j)) →
      (∀ q, (q < p * 8 ∨ p * 8 + 8 ≤ q) → NB' q = NB0 q ∧ SV' q = SV0 q) → post (nI (K - rl_cn (rl_nd ND p) K)) (nI n, nI c, nI m, vX, IV, U, upd CT p (nI (rl_cn (rl_nd ND p) K)), NB', SV', ST, SD, RC, PL, SI, RI, LN, ND, SE)) :
    ∀ (fu k : Nat) (NB SV : Nat → Int32), K < fu + k → k ≤ K → (∀ j, j < rl_cn (rl_nd ND p) k → NB (p * 8 + j) = NB0 (p * 8 + f j) ∧ SV (p * 8 + j) = SV0 (p * 8 + f j)) →
      (∀ q, (q < p * 8 ∨ p * 8 + 8 ≤ q) → NB q = NB0 q ∧ SV q = SV0 q) → (∀ j, k ≤ j → NB (p * 8 + j) = NB0 (p * 8 + j) ∧ SV (p * 8 + j) = SV0 (p * 8 + j)) →
      wX_dropUnneeded_18 post (nI p) (nI (p * 8)) (nI K) (nI n) (nI c) (nI m) fu (nI (rl_cn (rl_nd ND p) k)) (nI k) vX IV U CT NB SV ST SD RC PL SI RI LN ND SE := by
  intro fu
  induction fu with
  | zero => intro k NB SV q1 q2; omega
  | succ fu ih =>
    intro k NB SV q1 q2 q3 q4 q5
    have hc := rl_cn_le (rl_nd ND p) k
    by_cases e : K ≤ k
    · have e2 : k = K := by omega
      have hs := pk_sub (a := K) (b := rl_cn (rl_nd ND p) K) (by rw [e2] at hc; exact hc)
      rw [e2] at q3
      simp (disch := omega) only [wX_dropUnneeded_18, e, e2, hs, forall_eq, Nat.le_refl, rl_10, rl_n10, nI_leI, nI_ltI, nI_eq, vp_in_nI, nI_clamp, nI_1, nI_add, rl_lt0, rl_0le, rl_eq0, rl_eq1, rl_eq2, rl_m1, rl_m8, rl_m100, rl_vb0, rl_vb1, true_implies, forall_const, not_true_eq_false, not_false_eq_true, false_implies, and_true, true_and, implies_true, and_self]
      exact hpost NB SV q3 q4
    · have hk : k < K := by omega
      by_cases l : ND (p * 8 + k) = 0
      · have hn : ¬ rl_nd ND p k = true := fun z => (of_decide_eq_true z) l
        have := ih (k + 1) NB SV (by omega) (by omega) (by rw [rl_cn_f hn]; exact q3) q4 (fun j hj => q5 j (by omega))
        rw [rl_cn_f hn] at this
        simp (disch := omega) only [wX_dropUnneeded_18, e, l, forall_eq, Nat.le_refl, rl_10, rl_n10, nI_leI, nI_ltI, nI_eq, vp_in_nI, nI_clamp, nI_1, nI_add, rl_lt0, rl_0le, rl_eq0, rl_eq1, rl_eq2, rl_m1, rl_m8, rl_m100, rl_vb0, rl_vb1, true_implies, forall_const, not_true_eq_false, not_false_eq_true, false_implies, and_true, true_and, implies_true, and_self]
        exact this
      · have hn : rl_nd ND p k = true := decide_eq_true l
        obtain ⟨b1, b2⟩ := rl_Sub_at hf hk hn
        have := ih (k + 1) (upd NB (p * 8 + rl_cn (rl_nd ND p) k) (NB (p * 8 + k))) (upd SV (p * 8 + rl_cn (rl_nd ND p) k) (SV (p * 8 + k))) (by omega) (by omega) (fun j hj => ?_) (fun q hq => ?_) (fun j hj => ?_)
        · rw [rl_cn_t hn] at this
          simp (disch := omega) only [wX_dropUnneeded_18, e, l, forall_eq, Nat.le_refl, rl_10, rl_n10, nI_leI, nI_ltI, nI_eq, vp_in_nI, nI_clamp, nI_1, nI_add, rl_lt0, rl_0le, rl_eq0, rl_eq1, rl_eq2, rl_m1, rl_m8, rl_m100, rl_vb0, rl_vb1, true_implies, forall_const, not_true_eq_false, not_false_eq_true, false_implies, and_true, true_and, implies_true, and_self]
          exact this
        · rw [rl_cn_t hn] at hj
          by_cases qe : j = rl_cn (rl_nd ND p) k
          · rw [qe, pk_us, pk_us, b2]
            exact q5 k (Nat.le_refl _)
          · rw [pk_un (by omega), pk_un (by omega)]
            exact q3 j (by omega)
        · rw [pk_un (by omega), pk_un (by omega)]
          exact q4 q hq
        · rw [pk_un (by omega), pk_un (by omega)]
          exact q5 j (by omega)
theorem rx_drop {post : Int32 → St2 → Prop} {p K : Nat} (hp : p < 4) (hK : K ≤ 8) (hct : CT p = nI K) {f : Nat → Nat} (hf : rl_Sub (rl_nd ND p) K (rl_cn (rl_nd ND p) K) f)
    (hpost : ∀ NB' SV', (∀ j, j < rl_cn (rl_nd ND p) K → NB' (p * 8 + j) = NB (p * 8 + f j) ∧ SV' (p * 8 + j) = SV (p * 8 + f j)) →
      (∀ q, (q < p * 8 ∨ p * 8 + 8 ≤ q) → NB' q = NB q ∧ SV' q = SV q) → post (nI (K - rl_cn (rl_nd ND p) K)) (nI n, nI c, nI m, vX, IV, U, upd CT p (nI (rl_cn (rl_nd ND p) K)), NB', SV', ST, SD, RC, PL, SI, RI, LN, ND, SE)) :
    wpX_dropUnneeded post (nI n, nI c, nI m, vX, IV, U, CT, NB, SV, ST, SD, RC, PL, SI, RI, LN, ND, SE) (nI p) := by
  simp (disch := omega) only [wpX_dropUnneeded, wpX_firstCell, hct, forall_eq, Nat.le_refl, rl_10, rl_n10, nI_leI, nI_ltI, nI_eq, vp_in_nI, nI_clamp, nI_1, nI_add, rl_lt0, rl_0le, rl_eq0, rl_eq1, rl_eq2, rl_m1, rl_m8, rl_m100, rl_vb0, rl_vb1, true_implies, forall_const, not_true_eq_false, not_false_eq_true, false_implies, and_true, true_and, implies_true, and_self]
  exact ⟨K + 1, rx_drop_l hp hK hf hpost (K + 1) 0 NB SV (by omega) (by omega) (fun j hj => absurd hj (by show ¬ j < 0; omega)) (fun q _ => ⟨rfl, rfl⟩) (fun j _ => ⟨rfl, rfl⟩)⟩
theorem rx_recl2_l {post : Int32 → St2 → Prop} {R : Nat} (m16 : m ≤ 16) (hpost : post (nI (100 * R + rl_cn (rl_nz SE) m)) (nI n, nI c, nI m, vX, IV, U, CT, NB, SV, rl_mix m (rl_cl SE ST) ST, SD, RC, PL, SI, RI, LN, ND, SE)) :
    ∀ (fu s : Nat), m < fu + s → s ≤ m → wX_reclaim_34 post (nI R) (nI n) (nI c) (nI m) fu (nI (rl_cn (rl_nz SE) s)) (nI s) vX IV U CT NB SV (rl_mix s (rl_cl SE ST) ST) SD RC PL SI RI LN ND SE := by
  intro fu
  induction fu with
  | zero => intro s q1 q2; omega
  | succ fu ih =>
    intro s q1 q2
    by_cases e : m ≤ s
    · have e2 : s = m := by omega
      have hm : (100 : Int32) * nI R = nI (100 * R) := pk_mul 100 R
      simp (disch := omega) only [wX_reclaim_34, e, hm, forall_eq, Nat.le_refl, rl_10, rl_n10, nI_leI, nI_ltI, nI_eq, vp_in_nI, nI_clamp, nI_1, nI_add, rl_lt0, rl_0le, rl_eq0, rl_eq1, rl_eq2, rl_m1, rl_m8, rl_m100, rl_vb0, rl_vb1, true_implies, forall_const, not_true_eq_false, not_false_eq_true, false_implies, and_true, true_and, implies_true, and_self]
      rw [e2]; exact hpost
    · have := ih (s + 1) (by omega) (by omega)
      by_cases l : SE s = 0
      · have hn : ¬ rl_nz SE s = true := fun z => (of_decide_eq_true z) l
        rw [rl_cn_f hn, ← rl_mix_k (show rl_cl SE ST s = ST s from if_pos l)] at this
        simp (disch := omega) only [wX_reclaim_34, e, l, forall_eq, Nat.le_refl, rl_10, rl_n10, nI_leI, nI_ltI, nI_eq, vp_in_nI, nI_clamp, nI_1, nI_add, rl_lt0, rl_0le, rl_eq0, rl_eq1, rl_eq2, rl_m1, rl_m8, rl_m100, rl_vb0, rl_vb1, true_implies, forall_const, not_true_eq_false, not_false_eq_true, false_implies, and_true, true_and, implies_true, and_self]
        exact this
      · have hn : rl_nz SE s = true := decide_eq_true l
        rw [rl_cn_t hn, ← rl_mix_s (show (0 : Int32) = rl_cl SE ST s from (if_neg l).symm)] at this
        simp (disch := omega) only [wX_reclaim_34, e, l, forall_eq, Nat.le_refl, rl_10, rl_n10, nI_leI, nI_ltI, nI_eq, vp_in_nI, nI_clamp, nI_1, nI_add, rl_lt0, rl_0le, rl_eq0, rl_eq1, rl_eq2, rl_m1, rl_m8, rl_m100, rl_vb0, rl_vb1, true_implies, forall_const, not_true_eq_false, not_false_eq_true, false_implies, and_true, true_and, implies_true, and_self]
        exact this
theorem rx_recl1_l {post : Int32 → St2 → Prop} (n4 : n ≤ 4) (m16 : m ≤ 16) (h8 : ∀ p, p < n → ct p ≤ 8) {CT0 NB0 SV0 : Nat → Int32} (hCT : ∀ p, CT0 p = nI (ct p)) {f : Nat → Nat → Nat}
    (hf : ∀ p, p < n → rl_Sub (rl_nd ND p) (ct p) (rl_cn (rl_nd ND p) (ct p)) (f p))
    (hpost : ∀ NB' SV', (∀ p, p < n → ∀ j, j < rl_cn (rl_nd ND p) (ct p) → NB' (p * 8 + j) = NB0 (p * 8 + f p j) ∧ SV' (p * 8 + j) = SV0 (p * 8 + f p j)) →
      post (nI (100 * rl_sum (fun q => ct q - rl_cn (rl_nd ND q) (ct q)) n + rl_cn (rl_nz SE) m))
        (nI n, nI c, nI m, vX, IV, U, rl_mix n (fun q => nI (rl_cn (rl_nd ND q) (ct q))) CT0, NB', SV', rl_mix m (rl_cl SE ST) ST, SD, RC, PL, SI, RI, LN, ND, SE)) :
    ∀ (fu i : Nat) (NB SV : Nat → Int32), n < fu + i → i ≤ n →
      (∀ p, p < i → ∀ j, j < rl_cn (rl_nd ND p) (ct p) → NB (p * 8 + j) = NB0 (p * 8 + f p j) ∧ SV (p * 8 + j) = SV0 (p * 8 + f p j)) → (∀ q, i * 8 ≤ q → NB q = NB0 q ∧ SV q = SV0 q) →
      wX_reclaim_8 post fu (nI (rl_sum (fun q => ct q - rl_cn (rl_nd ND q) (ct q)) i)) (nI i) (nI n) (nI c) (nI m) vX IV U (rl_mix i (fun q => nI (rl_cn (rl_nd ND q) (ct q))) CT0) NB SV ST SD RC PL SI RI LN ND SE := by
  intro fu
  induction fu with
  | zero => intro i NB SV q1 q2; omega
  | succ fu ih =>
    intro i NB SV q1 q2 q3 q4
    by_cases e : n ≤ i
    · have e2 : i = n := by omega
      simp (disch := omega) only [wX_reclaim_8, e, forall_eq, Nat.le_refl, rl_10, rl_n10, nI_leI, nI_ltI, nI_eq, vp_in_nI, nI_clamp, nI_1, nI_add, rl_lt0, rl_0le, rl_eq0, rl_eq1, rl_eq2, rl_m1, rl_m8, rl_m100, rl_vb0, rl_vb1, true_implies, forall_const, not_true_eq_false, not_false_eq_true, false_implies, and_true, true_and, implies_true, and_self]
      rw [e2] at q3 ⊢
      have := rx_recl2_l (CT := rl_mix n (fun q => nI (rl_cn (rl_nd ND q) (ct q))) CT0) (NB := NB) (SV := SV) m16 (hpost NB SV q3) (m + 1) 0 (by omega) (by omega)
      rw [rl_mix_0] at this
      exact ⟨_, this⟩
    · have hi : i < n := by omega
      have hk := rl_cn_le (rl_nd ND i) (ct i)
      have h8i := h8 i hi
      simp (disch := omega) only [wX_reclaim_8, e, forall_eq, Nat.le_refl, rl_10, rl_n10, nI_leI, nI_ltI, nI_eq, vp_in_nI, nI_clamp, nI_1, nI_add, rl_lt0, rl_0le, rl_eq0, rl_eq1, rl_eq2, rl_m1, rl_m8, rl_m100, rl_vb0, rl_vb1, true_implies, forall_const, not_true_eq_false, not_false_eq_true, false_implies, and_true, true_and, implies_true, and_self]
      refine rx_drop (K := ct i) (f := f i) (by omega) h8i (by rw [rl_mix_ge (by omega)]; exact hCT i) (hf i hi) (fun NB1 SV1 r1 r2 => ?_)
      have := ih (i + 1) NB1 SV1 (by omega) (by omega) (fun p hp j hj => ?_) (fun q hq => ?_)
      · rw [← rl_mix_s (i := i) (a := fun q => nI (rl_cn (rl_nd ND q) (ct q))) rfl] at this
        try simp (disch := omega) only [forall_eq, Nat.le_refl, rl_10, rl_n10, nI_leI, nI_ltI, nI_eq, vp_in_nI, nI_clamp, nI_1, nI_add, rl_lt0, rl_0le, rl_eq0, rl_eq1, rl_eq2, rl_m1, rl_m8, rl_m100, rl_vb0, rl_vb1, true_implies, forall_const, not_true_eq_false, not_false_eq_true, false_implies, and_true, true_and, implies_true, and_self]
        exact this
      · by_cases pe : p = i
        · rw [pe] at hj ⊢
          obtain ⟨a1, a2⟩ := r1 j hj
          have hfj := ((hf i hi).1 j hj).1
          rw [a1, a2]
          exact q4 _ (by omega)
        · have hkp := rl_cn_le (rl_nd ND p) (ct p)
          have h8p := h8 p (by omega)
          obtain ⟨a1, a2⟩ := r2 (p * 8 + j) (by omega)
          rw [a1, a2]
          exact q3 p (by omega) j hj
      · obtain ⟨a1, a2⟩ := r2 q (by omega)
        rw [a1, a2]
        exact q4 q (by omega)
theorem rx_reclaim (hA : rl_A n c m iv ct g st sd rc si ri IV CT NB ST SD RC SI RI) {post : Int32 → St2 → Prop} {Ls : Int32 → Nat → Nat} (hL : ∀ T, rl_IsL n (rl_tp ct T) (rl_C m iv ct g st sd rc si ri) (Ls T))
    (hpost : ∀ LN' ND' SE' NB' SV' (f : Nat → Nat → Nat), (∀ p, p < n → ∀ k, k < ct p → (¬ ND' (p * 8 + k) = 0 ↔ rl_Nd (rl_or (rl_dn U) n) Ls (2 ^ n) p k)) →
      (∀ s, s < m → (¬ SE' s = 0 ↔ rl_Se (rl_or (rl_dn U) n) (fun T p => rl_G ct g iv p (Ls T p)) st rc ri (2 ^ n) s)) →
      (∀ p, p < n → rl_Sub (rl_nd ND' p) (ct p) (rl_cn (rl_nd ND' p) (ct p)) (f p)) →
      (∀ p, p < n → ∀ j, j < rl_cn (rl_nd ND' p) (ct p) → NB' (p * 8 + j) = NB (p * 8 + f p j) ∧ SV' (p * 8 + j) = SV (p * 8 + f p j)) →
      post (nI (100 * rl_sum (fun q => ct q - rl_cn (rl_nd ND' q) (ct q)) n + rl_cn (rl_nz SE') m))
        (nI n, nI c, nI m, vX, IV, U, rl_mix n (fun q => nI (rl_cn (rl_nd ND' q) (ct q))) CT, NB', SV', rl_mix m (rl_cl SE' ST) ST, SD, RC, PL, SI, RI, LN', ND', SE')) :
    wpX_reclaim post (nI n, nI c, nI m, vX, IV, U, CT, NB, SV, ST, SD, RC, PL, SI, RI, LN, ND, SE) := by
  have hA' := hA
  obtain ⟨hW, hIV, hCT, hNB, hST, hSD, hRC, hSI, hRI⟩ := hA'
  have hW' := hW
  obtain ⟨⟨⟨n2, n4⟩, ⟨c3, c8⟩, ⟨m4, m16⟩⟩, hS, hM, hB⟩ := hW'
  simp only [wpX_reclaim]
  refine rx_mns hA hL (fun LN1 ND1 SE1 r1 r2 => ?_)
  try dsimp only
  have hf : ∀ p, ∃ f, rl_Sub (rl_nd ND1 p) (ct p) (rl_cn (rl_nd ND1 p) (ct p)) f := fun p => rl_SubEx _ _
  obtain ⟨f, hf⟩ := Classical.axiomOfChoice hf
  have := rx_recl1_l (ND := ND1) (SE := SE1) (LN := LN1) (ST := ST) n4 m16 (fun p hp => Nat.le_trans (hS p hp).2.1 c8) hCT (f := f) (fun p _ => hf p)
    (fun NB' SV' r3 => hpost LN1 ND1 SE1 NB' SV' f r1 r2 (fun p _ => hf p) r3) (n + 1) 0 NB SV (by omega) (by omega) (fun p hp => absurd hp (by omega)) (fun q _ => ⟨rfl, rfl⟩)
  rw [rl_mix_0] at this
  exact ⟨_, this⟩
end
end
section
/-- the state of a slot behind a recovery to x -/
def rl_rb (st sd rc si ri x : Nat → Nat) (s : Nat) : Nat :=
  if st s = 0 then 0 else if si s < x (sd s) then (if st s = 2 ∧ ¬ ri s < x (rc s) then 1 else st s) else 0
/-- the processes whose component is stored -/
def rl_rl (ct L : Nat → Nat) : Nat → Bool := fun p => decide (L p < ct p)
def rl_nf (f : Nat → Bool) (a b : Nat → Int32) : Nat → Int32 := fun p => if f p = true then a p else b p
section
variable {n c m : Nat} {iv ct st sd rc si ri : Nat → Nat} {g : Nat → Nat → Nat}
variable {vX IV U CT NB SV ST SD RC PL SI RI LN ND SE : Nat → Int32}
theorem rx_rbS (hQ : rl_Q n m sd rc si ri SD RC SI RI) {post : St2 → Prop} {s : Nat} {x : Nat → Nat} (hs : s < m) (hx : ∀ p, p < n → LN p = nI (x p)) (h100 : ∀ p, p < n → x p ≤ 100)
    (hst : ST s = nI (st s)) (h2 : st s ≤ 2) (p1 : post (nI n, nI c, nI m, vX, IV, U, CT, NB, SV, upd ST s (nI (rl_rb st sd rc si ri x s)), SD, RC, PL, SI, RI, LN, ND, SE)) (p2 : rl_rb st sd rc si ri x s = st s → post (nI n, nI c, nI m, vX, IV, U, CT, NB, SV, ST, SD, RC, PL, SI, RI, LN, ND, SE)) : wpX_rollBackSlot post (nI n, nI c, nI m, vX, IV, U, CT, NB, SV, ST, SD, RC, PL, SI, RI, LN, ND, SE) (nI s) := by
  have m16 := hQ.2.1
  have h10 : ¬ (1 : Int32) = 0 := by decide
  by_cases e : st s = 0
  · simp (disch := omega) only [wpX_rollBackSlot, hst, e, forall_eq, Nat.le_refl, rl_10, rl_n10, nI_leI, nI_ltI, nI_eq, vp_in_nI, nI_clamp, nI_1, nI_add, rl_lt0, rl_0le, rl_eq0, rl_eq1, rl_eq2, rl_m1, rl_m8, rl_m100, rl_vb0, rl_vb1, true_implies, forall_const, not_true_eq_false, not_false_eq_true, false_implies, and_true, true_and, implies_true, and_self]
    exact p2 (by unfold rl_rb; rw [if_pos e, e])
  · simp (disch := omega) only [wpX_rollBackSlot, hst, e, forall_eq, Nat.le_refl, rl_10, rl_n10, nI_leI, nI_ltI, nI_eq, vp_in_nI, nI_clamp, nI_1, nI_add, rl_lt0, rl_0le, rl_eq0, rl_eq1, rl_eq2, rl_m1, rl_m8, rl_m100, rl_vb0, rl_vb1, true_implies, forall_const, not_true_eq_false, not_false_eq_true, false_implies, and_true, true_and, implies_true, and_self]
    refine rx_sendInc hQ hs hx h100 (fun a => ?_) (fun a => ?_)
    · by_cases l : st s = 2
      · simp (disch := omega) only [h10, hst, l, forall_eq, Nat.le_refl, rl_10, rl_n10, nI_leI, nI_ltI, nI_eq, vp_in_nI, nI_clamp, nI_1, nI_add, rl_lt0, rl_0le, rl_eq0, rl_eq1, rl_eq2, rl_m1, rl_m8, rl_m100, rl_vb0, rl_vb1, true_implies, forall_const, not_true_eq_false, not_false_eq_true, false_implies, and_true, true_and, implies_true, and_self]
        refine rx_recInc hQ hs hx h100 (fun b => ?_) (fun b => ?_)
        · simp (disch := omega) only [h10, forall_eq, Nat.le_refl, rl_10, rl_n10, nI_leI, nI_ltI, nI_eq, vp_in_nI, nI_clamp, nI_1, nI_add, rl_lt0, rl_0le, rl_eq0, rl_eq1, rl_eq2, rl_m1, rl_m8, rl_m100, rl_vb0, rl_vb1, true_implies, forall_const, not_true_eq_false, not_false_eq_true, false_implies, and_true, true_and, implies_true, and_self]
          refine p2 ?_
          unfold rl_rb
          rw [if_neg e, if_pos a, if_neg (fun z => z.2 b)]
        · have e1 : rl_rb st sd rc si ri x s = 1 := by
            unfold rl_rb
            rw [if_neg e, if_pos a, if_pos ⟨l, b⟩]
          rw [e1] at p1
          try simp (disch := omega) only [forall_eq, Nat.le_refl, rl_10, rl_n10, nI_leI, nI_ltI, nI_eq, vp_in_nI, nI_clamp, nI_1, nI_add, rl_lt0, rl_0le, rl_eq0, rl_eq1, rl_eq2, rl_m1, rl_m8, rl_m100, rl_vb0, rl_vb1, true_implies, forall_const, not_true_eq_false, not_false_eq_true, false_implies, and_true, true_and, implies_true, and_self]
          exact p1
      · simp (disch := omega) only [h10, hst, l, forall_eq, Nat.le_refl, rl_10, rl_n10, nI_leI, nI_ltI, nI_eq, vp_in_nI, nI_clamp, nI_1, nI_add, rl_lt0, rl_0le, rl_eq0, rl_eq1, rl_eq2, rl_m1, rl_m8, rl_m100, rl_vb0, rl_vb1, true_implies, forall_const, not_true_eq_false, not_false_eq_true, false_implies, and_true, true_and, implies_true, and_self]
        refine p2 ?_
        unfold rl_rb
        rw [if_neg e, if_pos a, if_neg (fun z => l z.1)]
    · have e1 : rl_rb st sd rc si ri x s = 0 := by
        unfold rl_rb
        rw [if_neg e, if_neg a]
      rw [e1] at p1
      try simp (disch := omega) only [forall_eq, Nat.le_refl, rl_10, rl_n10, nI_leI, nI_ltI, nI_eq, vp_in_nI, nI_clamp, nI_1, nI_add, rl_lt0, rl_0le, rl_eq0, rl_eq1, rl_eq2, rl_m1, rl_m8, rl_m100, rl_vb0, rl_vb1, true_implies, forall_const, not_true_eq_false, not_false_eq_true, false_implies, and_true, true_and, implies_true, and_self]
      exact p1
theorem rx_rbP {post : St2 → Prop} {p K κ : Nat} {gp : Nat → Nat} (hp : p < 4) (hK : K ≤ 8) (hct : CT p = nI K) (hnb : ∀ k, k < K → NB (p * 8 + k) = nI (gp k)) (hκ : κ < K)
    (h99 : ∀ k, k < K → gp k ≤ 99) (hinj : ∀ k, k < K → gp k = gp κ → k = κ) (hl : LN p = nI (gp κ))
    (hpost : post (nI n, nI c, nI m, upd vX p (SV (p * 8 + κ)), upd IV p (nI (gp κ)), U, upd CT p (nI (κ + 1)), NB, SV, ST, SD, RC, PL, SI, RI, LN, ND, SE)) : wpX_rollBackProcess post (nI n, nI c, nI m, vX, IV, U, CT, NB, SV, ST, SD, RC, PL, SI, RI, LN, ND, SE) (nI p) := by
  simp (disch := omega) only [wpX_rollBackProcess, forall_eq, Nat.le_refl, rl_10, rl_n10, nI_leI, nI_ltI, nI_eq, vp_in_nI, nI_clamp, nI_1, nI_add, rl_lt0, rl_0le, rl_eq0, rl_eq1, rl_eq2, rl_m1, rl_m8, rl_m100, rl_vb0, rl_vb1, true_implies, forall_const, not_true_eq_false, not_false_eq_true, false_implies, and_true, true_and, implies_true, and_self]
  refine rx_cellOf hp hK hct hnb (fun k hk ek => ?_) (fun ek => ?_)
  · rw [hl] at ek
    have a1 := h99 k hk
    have a2 := h99 κ hκ
    have e1 : k = κ := hinj k hk ((nI_eq (by omega) (by omega)).mp ek)
    have hne := rl_ne4 (a := p * 8 + κ) (by omega)
    have hsub : nI (p * 8 + κ) - nI (p * 8) = nI κ := by
      rw [pk_sub (by omega)]
      congr 1
      omega
    have hn := hnb κ hκ
    simp (disch := omega) only [hne, wpX_firstCell, e1, hsub, hn, forall_eq, Nat.le_refl, rl_10, rl_n10, nI_leI, nI_ltI, nI_eq, vp_in_nI, nI_clamp, nI_1, nI_add, rl_lt0, rl_0le, rl_eq0, rl_eq1, rl_eq2, rl_m1, rl_m8, rl_m100, rl_vb0, rl_vb1, true_implies, forall_const, not_true_eq_false, not_false_eq_true, false_implies, and_true, true_and, implies_true, and_self]
    exact hpost
  · exact absurd hl.symm (ek κ hκ)
theorem rx_reco2_l (hA : rl_A n c m iv ct g st sd rc si ri IV CT NB ST SD RC SI RI) {post : Int32 → St2 → Prop} {L : Nat → Nat} (hx : ∀ p, p < n → LN p = nI (rl_G ct g iv p (L p))) (hle : rl_le n L ct) {ST1 : Nat → Int32}
    (hpost : post (rl_or (rl_rl ct L) n) (nI n, nI c, nI m, rl_mix n (rl_nf (rl_rl ct L) (fun p => SV (p * 8 + L p)) vX) vX, rl_mix n (rl_nf (rl_rl ct L) (fun p => nI (g p (L p))) IV) IV, rl_mix n (fun _ => 1) U, rl_mix n (rl_nf (rl_rl ct L) (fun p => nI (L p + 1)) CT) CT, NB, SV, ST1, SD, RC, PL, SI, RI, LN, ND, SE)) :
    ∀ (fu i : Nat), n < fu + i → i ≤ n → wX_recover_41 post fu (rl_or (rl_rl ct L) i) (nI i)
      (nI n) (nI c) (nI m) (rl_mix i (rl_nf (rl_rl ct L) (fun p => SV (p * 8 + L p)) vX) vX) (rl_mix i (rl_nf (rl_rl ct L) (fun p => nI (g p (L p))) IV) IV) (rl_mix i (fun _ => 1) U) (rl_mix i (rl_nf (rl_rl ct L) (fun p => nI (L p + 1)) CT) CT) NB SV ST1 SD RC PL SI RI LN ND SE := by
  have hA' := hA
  obtain ⟨hW, hIV, hCT, hNB, hST, hSD, hRC, hSI, hRI⟩ := hA'
  have hW' := hW
  obtain ⟨⟨⟨n2, n4⟩, ⟨c3, c8⟩, ⟨m4, m16⟩⟩, hS, hM, hB⟩ := hW'
  intro fu
  induction fu with
  | zero => intro i q1 q2; omega
  | succ fu ih =>
    intro i q1 q2
    by_cases e : n ≤ i
    · have e2 : i = n := by omega
      simp (disch := omega) only [wX_recover_41, e, forall_eq, Nat.le_refl, rl_10, rl_n10, nI_leI, nI_ltI, nI_eq, vp_in_nI, nI_clamp, nI_1, nI_add, rl_lt0, rl_0le, rl_eq0, rl_eq1, rl_eq2, rl_m1, rl_m8, rl_m100, rl_vb0, rl_vb1, true_implies, forall_const, not_true_eq_false, not_false_eq_true, false_implies, and_true, true_and, implies_true, and_self]
      rw [e2]; exact hpost
    · have hi : i < n := by omega
      obtain ⟨s1, s2, s3, s4, s5⟩ := hS i hi
      have hG := rl_G_100 hS (L i) hi
      have hLi := hle i hi
      have := ih (i + 1) (by omega) (by omega)
      simp (disch := omega) only [wX_recover_41, e, forall_eq, Nat.le_refl, rl_10, rl_n10, nI_leI, nI_ltI, nI_eq, vp_in_nI, nI_clamp, nI_1, nI_add, rl_lt0, rl_0le, rl_eq0, rl_eq1, rl_eq2, rl_m1, rl_m8, rl_m100, rl_vb0, rl_vb1, true_implies, forall_const, not_true_eq_false, not_false_eq_true, false_implies, and_true, true_and, implies_true, and_self]
      refine rx_isNow (v := iv i) (y := rl_G ct g iv i (L i)) (by omega) (by omega) (by omega) (by rw [rl_mix_ge (Nat.le_refl _)]; exact hIV i) (hx i hi) (fun a => ?_) (fun a => ?_)
      · have hc : ¬ L i < ct i := by
          intro z
          rw [rl_G_in z] at a
          have := s4 _ z
          omega
        have hr : ¬ rl_rl ct L i = true := fun z => hc (of_decide_eq_true z)
        have h10 : ¬ (1 : Int32) = 0 := by decide
        rw [rl_or_f hr, ← rl_mix_k (show rl_nf (rl_rl ct L) (fun p => SV (p * 8 + L p)) vX i = vX i from if_neg hr), ← rl_mix_k (show rl_nf (rl_rl ct L) (fun p => nI (g p (L p))) IV i = IV i from if_neg hr),
          ← rl_mix_k (show rl_nf (rl_rl ct L) (fun p => nI (L p + 1)) CT i = CT i from if_neg hr), ← rl_mix_s (i := i) (a := fun _ => (1 : Int32)) (x := 1) rfl] at this
        simp (disch := omega) only [h10, forall_eq, Nat.le_refl, rl_10, rl_n10, nI_leI, nI_ltI, nI_eq, vp_in_nI, nI_clamp, nI_1, nI_add, rl_lt0, rl_0le, rl_eq0, rl_eq1, rl_eq2, rl_m1, rl_m8, rl_m100, rl_vb0, rl_vb1, true_implies, forall_const, not_true_eq_false, not_false_eq_true, false_implies, and_true, true_and, implies_true, and_self]
        exact this
      · have hc : L i < ct i := by
          by_cases z : L i < ct i
          · exact z
          · rw [rl_G_now z] at a; omega
        have hr : rl_rl ct L i = true := decide_eq_true hc
        rw [rl_or_t hr, ← rl_mix_s (show SV (i * 8 + L i) = rl_nf (rl_rl ct L) (fun p => SV (p * 8 + L p)) vX i from (if_pos hr).symm), ← rl_mix_s (show nI (g i (L i)) = rl_nf (rl_rl ct L) (fun p => nI (g p (L p))) IV i from (if_pos hr).symm),
          ← rl_mix_s (show nI (L i + 1) = rl_nf (rl_rl ct L) (fun p => nI (L p + 1)) CT i from (if_pos hr).symm), ← rl_mix_s (i := i) (a := fun _ => (1 : Int32)) (x := 1) rfl] at this
        try simp (disch := omega) only [forall_eq, Nat.le_refl, rl_10, rl_n10, nI_leI, nI_ltI, nI_eq, vp_in_nI, nI_clamp, nI_1, nI_add, rl_lt0, rl_0le, rl_eq0, rl_eq1, rl_eq2, rl_m1, rl_m8, rl_m100, rl_vb0, rl_vb1, true_implies, forall_const, not_true_eq_false, not_false_eq_true, false_implies, and_true, true_and, implies_true, and_self]
        refine rx_rbP (K := ct i) (κ := L i) (gp := g i) (by omega) (by omega) (by rw [rl_mix_ge (Nat.le_refl _)]; exact hCT i) (hNB i hi) hc (fun k hk => by have := s4 k hk; omega) (fun k hk ek => ?_) (by rw [hx i hi, rl_G_in hc]) ?_
        · rcases Nat.lt_trichotomy k (L i) with z | z | z
          · have := s3 _ _ z hc; omega
          · exact z
          · have := s3 _ _ z hk; omega
        · try simp (disch := omega) only [forall_eq, Nat.le_refl, rl_10, rl_n10, nI_leI, nI_ltI, nI_eq, vp_in_nI, nI_clamp, nI_1, nI_add, rl_lt0, rl_0le, rl_eq0, rl_eq1, rl_eq2, rl_m1, rl_m8, rl_m100, rl_vb0, rl_vb1, true_implies, forall_const, not_true_eq_false, not_false_eq_true, false_implies, and_true, true_and, implies_true, and_self]
          exact this
theorem rx_reco1_l (hA : rl_A n c m iv ct g st sd rc si ri IV CT NB ST SD RC SI RI) {post : Int32 → St2 → Prop} {L : Nat → Nat} (hx : ∀ p, p < n → LN p = nI (rl_G ct g iv p (L p))) (hle : rl_le n L ct)
    (hpost : post (rl_or (rl_rl ct L) n) (nI n, nI c, nI m, rl_mix n (rl_nf (rl_rl ct L) (fun p => SV (p * 8 + L p)) vX) vX, rl_mix n (rl_nf (rl_rl ct L) (fun p => nI (g p (L p))) IV) IV, rl_mix n (fun _ => 1) U, rl_mix n (rl_nf (rl_rl ct L) (fun p => nI (L p + 1)) CT) CT, NB, SV, rl_mix m (fun s => nI (rl_rb st sd rc si ri (fun p => rl_G ct g iv p (L p)) s)) ST, SD, RC, PL, SI, RI, LN, ND, SE)) :
    ∀ (fu s : Nat), m < fu + s → s ≤ m → wX_recover_18 post fu (nI s) (nI n) (nI c) (nI m) vX IV U CT NB SV (rl_mix s (fun s => nI (rl_rb st sd rc si ri (fun p => rl_G ct g iv p (L p)) s)) ST) SD RC PL SI RI LN ND SE := by
  have hA' := hA
  obtain ⟨hW, hIV, hCT, hNB, hST, hSD, hRC, hSI, hRI⟩ := hA'
  have hW' := hW
  obtain ⟨⟨⟨n2, n4⟩, ⟨c3, c8⟩, ⟨m4, m16⟩⟩, hS, hM, hB⟩ := hW'
  intro fu
  induction fu with
  | zero => intro s q1 q2; omega
  | succ fu ih =>
    intro s q1 q2
    by_cases e : m ≤ s
    · have e2 : s = m := by omega
      simp (disch := omega) only [wX_recover_18, e, forall_eq, Nat.le_refl, rl_10, rl_n10, nI_leI, nI_ltI, nI_eq, vp_in_nI, nI_clamp, nI_1, nI_add, rl_lt0, rl_0le, rl_eq0, rl_eq1, rl_eq2, rl_m1, rl_m8, rl_m100, rl_vb0, rl_vb1, true_implies, forall_const, not_true_eq_false, not_false_eq_true, false_implies, and_true, true_and, implies_true, and_self]
      rw [e2]
      have := rx_reco2_l hA hx hle hpost (n + 1) 0 (by omega) (by omega)
      rw [rl_mix_0, rl_mix_0, rl_mix_0, rl_mix_0] at this
      exact ⟨_, this⟩
    · have hs : s < m := by omega
      have := ih (s + 1) (by omega) (by omega)
      simp (disch := omega) only [wX_recover_18, e, forall_eq, Nat.le_refl, rl_10, rl_n10, nI_leI, nI_ltI, nI_eq, vp_in_nI, nI_clamp, nI_1, nI_add, rl_lt0, rl_0le, rl_eq0, rl_eq1, rl_eq2, rl_m1, rl_m8, rl_m100, rl_vb0, rl_vb1, true_implies, forall_const, not_true_eq_false, not_false_eq_true, false_implies, and_true, true_and, implies_true, and_self]
      refine rx_rbS (rl_Q_of hA) (st := st) (x := fun p => rl_G ct g iv p (L p)) hs hx (fun p hp => rl_G_100 hS _ hp) (by rw [rl_mix_ge (Nat.le_refl _)]; exact hST s) (hM.1 s).1 ?_ (fun hk => ?_)
      · rw [← rl_mix_s (i := s) (a := fun s => nI (rl_rb st sd rc si ri (fun p => rl_G ct g iv p (L p)) s)) rfl] at this
        try simp (disch := omega) only [forall_eq, Nat.le_refl, rl_10, rl_n10, nI_leI, nI_ltI, nI_eq, vp_in_nI, nI_clamp, nI_1, nI_add, rl_lt0, rl_0le, rl_eq0, rl_eq1, rl_eq2, rl_m1, rl_m8, rl_m100, rl_vb0, rl_vb1, true_implies, forall_const, not_true_eq_false, not_false_eq_true, false_implies, and_true, true_and, implies_true, and_self]
        exact this
      · rw [← rl_mix_k (i := s) (a := fun s => nI (rl_rb st sd rc si ri (fun p => rl_G ct g iv p (L p)) s)) (show nI (rl_rb st sd rc si ri (fun p => rl_G ct g iv p (L p)) s) = ST s by rw [hk, hST])] at this
        try simp (disch := omega) only [forall_eq, Nat.le_refl, rl_10, rl_n10, nI_leI, nI_ltI, nI_eq, vp_in_nI, nI_clamp, nI_1, nI_add, rl_lt0, rl_0le, rl_eq0, rl_eq1, rl_eq2, rl_m1, rl_m8, rl_m100, rl_vb0, rl_vb1, true_implies, forall_const, not_true_eq_false, not_false_eq_true, false_implies, and_true, true_and, implies_true, and_self]
        exact this
theorem rx_recover (hA : rl_A n c m iv ct g st sd rc si ri IV CT NB ST SD RC SI RI) {post : Int32 → St2 → Prop} {L : Nat → Nat} (hL : rl_IsL n (rl_tp ct (rl_or (rl_dn U) n)) (rl_C m iv ct g st sd rc si ri) L) (h0 : rl_or (rl_dn U) n = 0 → post 0 (nI n, nI c, nI m, vX, IV, U, CT, NB, SV, ST, SD, RC, PL, SI, RI, LN, ND, SE))
    (h1 : ¬ rl_or (rl_dn U) n = 0 → ∀ LN', post (rl_or (rl_rl ct L) n) (nI n, nI c, nI m, rl_mix n (rl_nf (rl_rl ct L) (fun p => SV (p * 8 + L p)) vX) vX, rl_mix n (rl_nf (rl_rl ct L) (fun p => nI (g p (L p))) IV) IV, rl_mix n (fun _ => 1) U, rl_mix n (rl_nf (rl_rl ct L) (fun p => nI (L p + 1)) CT) CT, NB, SV, rl_mix m (fun s => nI (rl_rb st sd rc si ri (fun p => rl_G ct g iv p (L p)) s)) ST, SD, RC, PL, SI, RI, LN', ND, SE)) :
    wpX_recover post (nI n, nI c, nI m, vX, IV, U, CT, NB, SV, ST, SD, RC, PL, SI, RI, LN, ND, SE) := by
  have hA' := hA
  obtain ⟨hW, hIV, hCT, hNB, hST, hSD, hRC, hSI, hRI⟩ := hA'
  have hW' := hW
  obtain ⟨⟨⟨n2, n4⟩, ⟨c3, c8⟩, ⟨m4, m16⟩⟩, hS, hM, hB⟩ := hW'
  simp only [wpX_recover]
  refine rx_down n4 ?_
  try dsimp only
  by_cases e : rl_or (rl_dn U) n = 0
  · simp (disch := omega) only [e, forall_eq, Nat.le_refl, rl_10, rl_n10, nI_leI, nI_ltI, nI_eq, vp_in_nI, nI_clamp, nI_1, nI_add, rl_lt0, rl_0le, rl_eq0, rl_eq1, rl_eq2, rl_m1, rl_m8, rl_m100, rl_vb0, rl_vb1, true_implies, forall_const, not_true_eq_false, not_false_eq_true, false_implies, and_true, true_and, implies_true, and_self]
    exact h0 e
  · simp (disch := omega) only [e, forall_eq, Nat.le_refl, rl_10, rl_n10, nI_leI, nI_ltI, nI_eq, vp_in_nI, nI_clamp, nI_1, nI_add, rl_lt0, rl_0le, rl_eq0, rl_eq1, rl_eq2, rl_m1, rl_m8, rl_m100, rl_vb0, rl_vb1, true_implies, forall_const, not_true_eq_false, not_false_eq_true, false_implies, and_true, true_and, implies_true, and_self]
    refine rx_find hA hL (fun LN1 r1 => ?_)
    try dsimp only
    have := rx_reco1_l hA r1 (fun p hp => Nat.le_trans (hL.1 p hp) (rl_tp_le ct _ p)) (h1 e LN1) (m + 1) 0 (by omega) (by omega)
    rw [rl_mix_0] at this
    exact ⟨_, this⟩
end
end
section
section
variable {n c m : Nat} {iv ct st sd rc si ri : Nat → Nat} {g : Nat → Nat → Nat}
variable {vX IV U CT NB SV ST SD RC PL SI RI LN ND SE : Nat → Int32}
theorem rx_empty_l {post : Int32 → Prop} (m16 : m ≤ 16) (hST : ∀ s, ST s = nI (st s)) (h2 : ∀ s, st s ≤ 2) (h1 : ∀ s, s < m → st s = 0 → (∀ j, j < s → ¬ st j = 0) → post (nI s))
    (h0 : (∀ s, s < m → ¬ st s = 0) → post (-4)) : ∀ (fu s : Nat), m < fu + s → s ≤ m → (∀ j, j < s → ¬ st j = 0) → wX_firstEmptySlot_2 post (nI n) (nI c) (nI m) vX IV U CT NB SV ST SD RC PL SI RI LN ND SE fu (nI s) := by
  intro fu
  induction fu with
  | zero => intro s q1 q2; omega
  | succ fu ih =>
    intro s q1 q2 q3
    have h2s := h2 s
    by_cases e : m ≤ s
    · simp (disch := omega) only [wX_firstEmptySlot_2, e, forall_eq, Nat.le_refl, rl_10, rl_n10, nI_leI, nI_ltI, nI_eq, vp_in_nI, nI_clamp, nI_1, nI_add, rl_lt0, rl_0le, rl_eq0, rl_eq1, rl_eq2, rl_m1, rl_m8, rl_m100, rl_vb0, rl_vb1, true_implies, forall_const, not_true_eq_false, not_false_eq_true, false_implies, and_true, true_and, implies_true, and_self]
      exact h0 (fun j hj => q3 j (by omega))
    · by_cases a : st s = 0
      · simp (disch := omega) only [wX_firstEmptySlot_2, e, hST, a, forall_eq, Nat.le_refl, rl_10, rl_n10, nI_leI, nI_ltI, nI_eq, vp_in_nI, nI_clamp, nI_1, nI_add, rl_lt0, rl_0le, rl_eq0, rl_eq1, rl_eq2, rl_m1, rl_m8, rl_m100, rl_vb0, rl_vb1, true_implies, forall_const, not_true_eq_false, not_false_eq_true, false_implies, and_true, true_and, implies_true, and_self]
        exact h1 s (by omega) a q3
      · simp (disch := omega) only [wX_firstEmptySlot_2, e, hST, a, forall_eq, Nat.le_refl, rl_10, rl_n10, nI_leI, nI_ltI, nI_eq, vp_in_nI, nI_clamp, nI_1, nI_add, rl_lt0, rl_0le, rl_eq0, rl_eq1, rl_eq2, rl_m1, rl_m8, rl_m100, rl_vb0, rl_vb1, true_implies, forall_const, not_true_eq_false, not_false_eq_true, false_implies, and_true, true_and, implies_true, and_self]
        refine ih (s + 1) (by omega) (by omega) (fun j hj => ?_)
        by_cases q : j = s
        · rw [q]; exact a
        · exact q3 j (by omega)
theorem rx_empty {post : Int32 → Prop} (m16 : m ≤ 16) (hST : ∀ s, ST s = nI (st s)) (h2 : ∀ s, st s ≤ 2) (h1 : ∀ s, s < m → st s = 0 → (∀ j, j < s → ¬ st j = 0) → post (nI s))
    (h0 : (∀ s, s < m → ¬ st s = 0) → post (-4)) : wpX_firstEmptySlot post (nI n, nI c, nI m, vX, IV, U, CT, NB, SV, ST, SD, RC, PL, SI, RI, LN, ND, SE) := by
  simp only [wpX_firstEmptySlot]
  exact ⟨m + 1, rx_empty_l m16 hST h2 h1 h0 (m + 1) 0 (by omega) (by omega) (fun j hj => absurd hj (by omega))⟩
end
end
section
/-- the model's consistency: H r s j is one more than the greatest send interval of s among what r received in its interval j -/
def rq_C (H : Nat → Nat → Nat → Nat) (y : Nat → Nat) : Prop := ∀ r, r < 4 → ∀ s, s < 4 → r ≠ s → ∀ j, j < y r → H r s j ≤ y s
def rq_top (n : Nat) (iv : Nat → Nat) (T : Nat → Bool) (p : Nat) : Nat := if p < n then (if T p = true then iv p else iv p + 1) else 0
theorem rq_top_t {n : Nat} {iv : Nat → Nat} {T : Nat → Bool} {p : Nat} (hp : p < n) (h : T p = true) : rq_top n iv T p = iv p := by
  unfold rq_top; rw [if_pos hp, if_pos h]
theorem rq_top_f {n : Nat} {iv : Nat → Nat} {T : Nat → Bool} {p : Nat} (hp : p < n) (h : ¬ T p = true) : rq_top n iv T p = iv p + 1 := by
  unfold rq_top; rw [if_pos hp, if_neg h]
theorem rq_top_o {n : Nat} {iv : Nat → Nat} {T : Nat → Bool} {p : Nat} (hp : ¬ p < n) : rq_top n iv T p = 0 := by
  unfold rq_top; rw [if_neg hp]
theorem rq_top_le {n : Nat} {iv : Nat → Nat} {T : Nat → Bool} {p : Nat} : rq_top n iv T p ≤ iv p + 1 := by
  unfold rq_top
  split
  · split <;> omega
  · omega
theorem rq_ex (n : Nat) (iv : Nat → Nat) (T : Nat → Bool) (H : Nat → Nat → Nat → Nat) : ∃ M, rl_IsL 4 (rq_top n iv T) (rq_C H) M := by
  refine rl_greatest ⟨fun _ => 0, fun p _ => Nat.zero_le _, fun r _ s _ _ j hj => absurd hj (Nat.not_lt_zero j)⟩ (fun a b _ _ ca cb => ?_)
  intro r hr s hs hrs j hj
  rcases rl_max_or a b r with e | e
  · rw [e] at hj
    exact Nat.le_trans (ca r hr s hs hrs j hj) (rl_max_l a b s)
  · rw [e] at hj
    exact Nat.le_trans (cb r hr s hs hrs j hj) (rl_max_r a b s)
theorem rq_mono {n : Nat} {iv : Nat → Nat} {T T' : Nat → Bool} {H : Nat → Nat → Nat → Nat} {M M' : Nat → Nat} (hT : ∀ p, p < n → T p = true → T' p = true)
    (h : rl_IsL 4 (rq_top n iv T) (rq_C H) M) (h' : rl_IsL 4 (rq_top n iv T') (rq_C H) M') : rl_le 4 M' M := by
  refine h.2.2 M' (fun p hp => Nat.le_trans (h'.1 p hp) ?_) h'.2.1
  unfold rq_top
  by_cases a : p < n
  · rw [if_pos a, if_pos a]
    by_cases b : T p = true
    · rw [if_pos b, if_pos (hT p a b)]; exact Nat.le_refl _
    · rw [if_neg b]; split <;> omega
  · rw [if_neg a, if_neg a]; exact Nat.le_refl _
def rq_I (n m : Nat) (iv ct : Nat → Nat) (g : Nat → Nat → Nat) (st sd rc si ri : Nat → Nat) (D : Nat → Bool) (H : Nat → Nat → Nat → Nat) : Prop :=
  (∀ p, p < n → iv p ≤ 14) ∧ (∀ r s j, 0 < H r s j → r < n ∧ s < n ∧ r ≠ s ∧ j ≤ iv r ∧ H r s j ≤ iv s + 1) ∧
  (∀ e, e < m → ¬ st e = 0 → sd e ≠ rc e ∧ si e ≤ iv (sd e)) ∧
  (∀ e, e < m → st e = 2 → si e + 1 ≤ H (rc e) (sd e) (ri e)) ∧
  (∀ r s j, 0 < H r s j → (∃ e, e < m ∧ st e = 2 ∧ rc e = r ∧ sd e = s ∧ ri e = j ∧ si e + 1 = H r s j) ∨
    ∀ M, rl_IsL 4 (rq_top n iv (fun _ => true)) (rq_C H) M → H r s j ≤ M s) ∧
  (∀ T : Nat → Bool, (∀ p, p < n → D p = true → T p = true) → ∀ M, rl_IsL 4 (rq_top n iv T) (rq_C H) M → ∀ p, p < n → M p = iv p + 1 ∨ ∃ k, k < ct p ∧ g p k = M p)
section
variable {n c m : Nat} {iv ct st sd rc si ri : Nat → Nat} {g : Nat → Nat → Nat}
variable {D : Nat → Bool} {H : Nat → Nat → Nat → Nat}
/-- a line of the model is a consistent choice of the component -/
theorem rq_place (hW : rl_W n c m iv ct g st sd rc si ri) (hI : rq_I n m iv ct g st sd rc si ri D H) {T : Nat → Bool} (hD : ∀ p, p < n → D p = true → T p = true) {M : Nat → Nat}
    (hM : rl_IsL 4 (rq_top n iv T) (rq_C H) M) : ∃ κ : Nat → Nat, (∀ p, p < n → κ p ≤ ct p ∧ rl_G ct g iv p (κ p) = M p ∧ (T p = true → κ p < ct p)) ∧ rl_C m iv ct g st sd rc si ri κ := by
  obtain ⟨⟨⟨n2, n4⟩, _⟩, hS, hMs, _⟩ := hW
  obtain ⟨i1, i2, i3, i4, i5, i6⟩ := hI
  have hex : ∀ p, ∃ k, p < n → (k ≤ ct p ∧ rl_G ct g iv p k = M p ∧ (T p = true → k < ct p)) := by
    intro p
    by_cases hp : p < n
    · rcases i6 T hD M hM p hp with e | ⟨k, hk, e⟩
      · refine ⟨ct p, fun _ => ⟨Nat.le_refl _, by rw [rl_G_now (Nat.lt_irrefl _)]; exact e.symm, fun z => ?_⟩⟩
        exfalso
        have := hM.1 p (by omega)
        rw [rq_top_t hp z] at this
        omega
      · exact ⟨k, fun _ => ⟨by omega, by rw [rl_G_in hk]; exact e, fun _ => hk⟩⟩
    · exact ⟨0, fun z => absurd z hp⟩
  obtain ⟨κ, hκ⟩ := Classical.axiomOfChoice hex
  refine ⟨κ, hκ, fun e he h2 hr => ?_⟩
  obtain ⟨t1, t2, t3, t4, t5⟩ := hMs.1 e
  have hr' : ri e < rl_G ct g iv (rc e) (κ (rc e)) := hr
  show si e < rl_G ct g iv (sd e) (κ (sd e))
  rw [(hκ _ t3).2.1] at hr'
  rw [(hκ _ t2).2.1]
  have a1 := i4 e he h2
  have a2 := hM.2.1 (rc e) (by omega) (sd e) (by omega) (fun z => (i3 e he (by omega)).1 z.symm) (ri e) hr'
  omega
/-- the component's lines are the model's -/
theorem rq_eq (hW : rl_W n c m iv ct g st sd rc si ri) (hI : rq_I n m iv ct g st sd rc si ri D H) {T : Nat → Bool} (hD : ∀ p, p < n → D p = true → T p = true) {TX : Int32}
    (hT : ∀ p, p < n → (T p = true ↔ ¬ (TX &&& ((1 : Int32) <<< (nI p &&& 31))) = 0)) {M L : Nat → Nat} (hM : rl_IsL 4 (rq_top n iv T) (rq_C H) M)
    (hL : rl_IsL n (rl_tp ct TX) (rl_C m iv ct g st sd rc si ri) L) : ∀ p, p < n → M p = rl_G ct g iv p (L p) := by
  have hW' := hW
  have hI' := hI
  obtain ⟨⟨⟨n2, n4⟩, _⟩, hS, hMs, _⟩ := hW'
  obtain ⟨i1, i2, i3, i4, i5, i6⟩ := hI'
  have htp : ∀ p, p < n → T p = true → rl_tp ct TX p = ct p - 1 := fun p hp h => if_neg ((hT p hp).mp h)
  have htf : ∀ p, p < n → ¬ T p = true → rl_tp ct TX p = ct p := by
    intro p hp h
    refine if_pos ?_
    apply Classical.byContradiction
    intro z
    exact h ((hT p hp).mpr z)
  have hle : ∀ {T' : Nat → Bool} {M' : Nat → Nat}, (∀ p, p < n → T p = true → T' p = true) → (∀ p, p < n → D p = true → T' p = true) → rl_IsL 4 (rq_top n iv T') (rq_C H) M' → ∀ p, p < n → M' p ≤ rl_G ct g iv p (L p) := by
    intro T' M' h1 h2 h3 p hp
    obtain ⟨κ, hκ, cκ⟩ := rq_place hW hI h2 h3
    have hκL := hL.2.2 κ (fun q hq => ?_) cκ
    · rw [← (hκ p hp).2.1]
      exact rl_G_le hS hp (hκL p hp) (Nat.le_trans (hL.1 p hp) (rl_tp_le ct TX p))
    · obtain ⟨b1, b2, b3⟩ := hκ q hq
      by_cases z : T q = true
      · rw [htp q hq z]
        have := b3 (h1 q hq z)
        omega
      · rw [htf q hq z]; exact b1
  have hge := hM.2.2 (fun p => if p < n then rl_G ct g iv p (L p) else 0) (fun p hp => ?_) (fun r hr s hs hrs j hj => ?_)
  · intro p hp
    have h1 := hle (fun _ _ h => h) hD hM p hp
    have h2 : (if p < n then rl_G ct g iv p (L p) else 0) ≤ M p := hge p (by omega)
    rw [if_pos hp] at h2
    omega
  · show (if p < n then rl_G ct g iv p (L p) else 0) ≤ rq_top n iv T p
    by_cases a : p < n
    · rw [if_pos a]
      have hLp := hL.1 p a
      obtain ⟨s1, s2, s3, s4, s5⟩ := hS p a
      by_cases z : T p = true
      · rw [htp p a z] at hLp
        rw [rq_top_t a z, rl_G_in (by omega)]
        exact s4 _ (by omega)
      · rw [rq_top_f a z]
        by_cases w : L p < ct p
        · rw [rl_G_in w]
          have := s4 _ w
          omega
        · rw [rl_G_now w]; exact Nat.le_refl _
    · rw [if_neg a]; exact Nat.zero_le _
  · have hj' : j < if r < n then rl_G ct g iv r (L r) else 0 := hj
    show H r s j ≤ if s < n then rl_G ct g iv s (L s) else 0
    by_cases z : H r s j = 0
    · omega
    · obtain ⟨b1, b2, b3, b4, b5⟩ := i2 r s j (by omega)
      rw [if_pos b1] at hj'
      rw [if_pos b2]
      rcases i5 r s j (by omega) with ⟨e, he, h2, e1, e2, e3, e4⟩ | hs2
      · have hc : ri e < rl_G ct g iv (rc e) (L (rc e)) → si e < rl_G ct g iv (sd e) (L (sd e)) := hL.2.1 e he h2
        rw [e1, e2, e3] at hc
        have := hc hj'
        omega
      · obtain ⟨Ma, hMa⟩ := rq_ex n iv (fun _ => true) H
        exact Nat.le_trans (hs2 Ma hMa) (hle (fun _ _ _ => rfl) (fun _ _ _ => rfl) hMa s b2)
end
end
section
section
variable {n c m : Nat} {iv ct st sd rc si ri : Nat → Nat} {g : Nat → Nat → Nat}
variable {D : Nat → Bool} {H : Nat → Nat → Nat → Nat}
theorem rq_I_st (hI : rq_I n m iv ct g st sd rc si ri D H) {st' : Nat → Nat} (h : ∀ e, st' e = st e ∨ (st' e = 0 ∧ ¬ st e = 2)) : rq_I n m iv ct g st' sd rc si ri D H := by
  obtain ⟨i1, i2, i3, i4, i5, i6⟩ := hI
  refine ⟨i1, i2, fun e he z => ?_, fun e he z => ?_, fun r s j hj => ?_, i6⟩
  · rcases h e with a | a
    · exact i3 e he (by omega)
    · exact absurd a.1 z
  · rcases h e with a | a
    · exact i4 e he (by omega)
    · omega
  · rcases i5 r s j hj with ⟨e, he, h2, w⟩ | w
    · refine Or.inl ⟨e, he, ?_, w⟩
      rcases h e with a | a
      · omega
      · exact absurd h2 a.2
    · exact Or.inr w
theorem rq_I_send (hI : rq_I n m iv ct g st sd rc si ri D H) {e p q : Nat} (he0 : st e = 0) (hpq : p ≠ q) :
    rq_I n m iv ct g (rl_u st e 1) (rl_u sd e p) (rl_u rc e q) (rl_u si e (iv p)) ri D H := by
  obtain ⟨i1, i2, i3, i4, i5, i6⟩ := hI
  refine ⟨i1, i2, fun a ha z => ?_, fun a ha z => ?_, fun r s j hj => ?_, i6⟩
  · by_cases ae : a = e
    · rw [ae, rl_us, rl_us, rl_us]; exact ⟨hpq, Nat.le_refl _⟩
    · rw [rl_un ae] at z
      rw [rl_un ae, rl_un ae, rl_un ae]; exact i3 a ha z
  · by_cases ae : a = e
    · rw [ae, rl_us] at z; omega
    · rw [rl_un ae] at z
      rw [rl_un ae, rl_un ae, rl_un ae]; exact i4 a ha z
  · rcases i5 r s j hj with ⟨a, ha, h2, w⟩ | w
    · have ae : a ≠ e := by
        intro z
        rw [z] at h2; omega
      refine Or.inl ⟨a, ha, ?_⟩
      rw [rl_un ae, rl_un ae, rl_un ae, rl_un ae]
      exact ⟨h2, w⟩
    · exact Or.inr w
theorem rq_I_crash (hI : rq_I n m iv ct g st sd rc si ri D H) {D' : Nat → Bool} (h : ∀ p, p < n → D p = true → D' p = true) : rq_I n m iv ct g st sd rc si ri D' H := by
  obtain ⟨i1, i2, i3, i4, i5, i6⟩ := hI
  exact ⟨i1, i2, i3, i4, i5, fun T hT => i6 T (fun p hp z => hT p hp (h p hp z))⟩
theorem rq_I_check (n4 : n ≤ 4) (hI : rq_I n m iv ct g st sd rc si ri D H) {p : Nat} (hp : p < n) (hD : ¬ D p = true) (h14 : iv p < 14) :
    rq_I n m (rl_u iv p (iv p + 1)) (rl_u ct p (ct p + 1)) (rl_gC g p (ct p) (iv p + 1)) st sd rc si ri D H := by
  obtain ⟨i1, i2, i3, i4, i5, i6⟩ := hI
  have hge : ∀ q, iv q ≤ rl_u iv p (iv p + 1) q := by
    intro q
    by_cases e : q = p
    · rw [e, rl_us]; omega
    · rw [rl_un e]; exact Nat.le_refl _
  refine ⟨fun q hq => ?_, fun r s j hj => ?_, fun e he z => ?_, i4, fun r s j hj => ?_, fun T hT M' hM' => ?_⟩
  · by_cases e : q = p
    · rw [e, rl_us]; omega
    · rw [rl_un e]; exact i1 q hq
  · obtain ⟨b1, b2, b3, b4, b5⟩ := i2 r s j hj
    have h1 := hge r
    have h2 := hge s
    exact ⟨b1, b2, b3, by omega, by omega⟩
  · obtain ⟨b1, b2⟩ := i3 e he z
    exact ⟨b1, Nat.le_trans b2 (hge _)⟩
  · rcases i5 r s j hj with w | w
    · exact Or.inl w
    · refine Or.inr (fun M' hM' => ?_)
      obtain ⟨Ma, hMa⟩ := rq_ex n iv (fun _ => true) H
      refine Nat.le_trans (w Ma hMa) ?_
      have hs := (i2 r s j hj).2.1
      refine hM'.2.2 Ma (fun q hq => Nat.le_trans (hMa.1 q hq) ?_) hMa.2.1 s (by omega)
      by_cases a : q < n
      · rw [rq_top_t a rfl, rq_top_t a rfl]; exact hge q
      · rw [rq_top_o a]; exact Nat.zero_le _
  · obtain ⟨M0, hM0⟩ := rq_ex n iv (fun q => if q = p then false else T q) H
    have hT0 : ∀ q, q ≠ p → (fun q => if q = p then false else T q) q = T q := fun q hq => if_neg hq
    have hT0p : ¬ (fun q => if q = p then false else T q) p = true := by
      show ¬ (if p = p then false else T p) = true
      rw [if_pos rfl]; decide
    have htop : ∀ q, q ≠ p → rq_top n (rl_u iv p (iv p + 1)) T q = rq_top n iv (fun q => if q = p then false else T q) q := by
      intro q hq
      unfold rq_top
      rw [rl_un hq]
      show (if q < n then (if T q = true then iv q else iv q + 1) else 0) = (if q < n then (if (if q = p then false else T q) = true then iv q else iv q + 1) else 0)
      rw [if_neg hq]
    have htp : rq_top n iv (fun q => if q = p then false else T q) p = iv p + 1 := rq_top_f hp hT0p
    have htp' : iv p + 1 ≤ rq_top n (rl_u iv p (iv p + 1)) T p := by
      by_cases a : T p = true
      · rw [rq_top_t hp a, rl_us]; exact Nat.le_refl _
      · rw [rq_top_f hp a, rl_us]; omega
    have h0p := hM0.1 p (by omega)
    rw [htp] at h0p
    have hz := hM'.2.2 (fun q => if q = p ∧ M0 p = iv p + 1 then rq_top n (rl_u iv p (iv p + 1)) T p else M0 q) (fun q hq => ?_) (fun r hr s hs hrs j hj => ?_)
    · have hw := hM0.2.2 (fun q => if q = p ∧ iv p + 1 < M' p then iv p + 1 else M' q) (fun q hq => ?_) (fun r hr s hs hrs j hj => ?_)
      · have hDT : ∀ q, q < n → D q = true → (fun q => if q = p then false else T q) q = true := by
          intro q hq hd
          by_cases e : q = p
          · rw [e] at hd; exact absurd hd hD
          · rw [hT0 q e]; exact hT q hq hd
        intro q hq
        have z1 : (if q = p ∧ M0 p = iv p + 1 then rq_top n (rl_u iv p (iv p + 1)) T p else M0 q) ≤ M' q := hz q (by omega)
        have w1 : (if q = p ∧ iv p + 1 < M' p then iv p + 1 else M' q) ≤ M0 q := hw q (by omega)
        have h6 := i6 _ hDT M0 hM0 q hq
        by_cases e : q = p
        · rw [e] at z1 w1 h6 ⊢
          rw [rl_us, rl_us]
          by_cases f : M0 p = iv p + 1
          · rw [if_pos ⟨rfl, f⟩] at z1
            have t1 := hM'.1 p (by omega)
            by_cases a : T p = true
            · rw [rq_top_t hp a, rl_us] at z1 t1
              exact Or.inr ⟨ct p, by omega, by rw [rl_gC_s]; omega⟩
            · rw [rq_top_f hp a, rl_us] at z1 t1
              exact Or.inl (by omega)
          · rw [if_neg (fun z => f z.2)] at z1
            have l : ¬ (p = p ∧ iv p + 1 < M' p) := by
              intro z
              rw [if_pos z] at w1
              omega
            rw [if_neg l] at w1
            have e2 : M' p = M0 p := by omega
            rcases h6 with h6 | ⟨k, hk, ek⟩
            · exact absurd h6 f
            · refine Or.inr ⟨k, by omega, ?_⟩
              rw [rl_gC_n (fun z => by omega), e2]; exact ek
        · rw [if_neg (fun z => e z.1)] at z1 w1
          have e2 : M' q = M0 q := by omega
          rw [rl_un e, rl_un e, e2]
          rcases h6 with h6 | ⟨k, hk, ek⟩
          · exact Or.inl h6
          · refine Or.inr ⟨k, hk, ?_⟩
            rw [rl_gC_n (fun z => e z.1)]; exact ek
      · show (if q = p ∧ iv p + 1 < M' p then iv p + 1 else M' q) ≤ _
        by_cases e : q = p
        · rw [e, htp]
          split <;> omega
        · rw [if_neg (fun z => e z.1), ← htop q e]
          exact hM'.1 q hq
      · have hj' : j < if r = p ∧ iv p + 1 < M' p then iv p + 1 else M' r := hj
        show H r s j ≤ if s = p ∧ iv p + 1 < M' p then iv p + 1 else M' s
        have hj2 : j < M' r := by
          by_cases a : r = p ∧ iv p + 1 < M' p
          · rw [if_pos a] at hj'; rw [a.1]; omega
          · rw [if_neg a] at hj'; exact hj'
        have hc := hM'.2.1 r hr s hs hrs j hj2
        by_cases a : s = p ∧ iv p + 1 < M' p
        · rw [if_pos a]
          by_cases z : H r s j = 0
          · omega
          · have := (i2 r s j (by omega)).2.2.2.2
            rw [a.1] at this ⊢
            exact this
        · rw [if_neg a]; exact hc
    · show (if q = p ∧ M0 p = iv p + 1 then rq_top n (rl_u iv p (iv p + 1)) T p else M0 q) ≤ _
      by_cases e : q = p
      · rw [e]
        by_cases f : M0 p = iv p + 1
        · rw [if_pos ⟨rfl, f⟩]; exact Nat.le_refl _
        · rw [if_neg (fun z => f z.2)]; omega
      · rw [if_neg (fun z => e z.1), htop q e]
        exact hM0.1 q hq
    · have hj' : j < if r = p ∧ M0 p = iv p + 1 then rq_top n (rl_u iv p (iv p + 1)) T p else M0 r := hj
      show H r s j ≤ if s = p ∧ M0 p = iv p + 1 then rq_top n (rl_u iv p (iv p + 1)) T p else M0 s
      have hs0 : M0 s ≤ if s = p ∧ M0 p = iv p + 1 then rq_top n (rl_u iv p (iv p + 1)) T p else M0 s := by
        by_cases a : s = p ∧ M0 p = iv p + 1
        · rw [if_pos a, a.1]; omega
        · rw [if_neg a]; exact Nat.le_refl _
      by_cases l : j < M0 r
      · exact Nat.le_trans (hM0.2.1 r hr s hs hrs j l) hs0
      · by_cases z : H r s j = 0
        · omega
        · exfalso
          have hb := (i2 r s j (by omega)).2.2.2.1
          by_cases a : r = p ∧ M0 p = iv p + 1
          · rw [a.1] at hb l; omega
          · rw [if_neg a] at hj'; exact l hj'
def rq_put (H : Nat → Nat → Nat → Nat) (r s j u : Nat) : Nat → Nat → Nat → Nat := fun a b i => if (a = r ∧ b = s ∧ i = j) ∧ H r s j < u then u else H a b i
theorem rq_I_deliver (n4 : n ≤ 4) (hMs : rl_Msg n m iv st sd rc si ri) (hI : rq_I n m iv ct g st sd rc si ri D H) {e : Nat} (he : e < m) (h1 : st e = 1) :
    rq_I n m iv ct g (rl_u st e 2) sd rc si (rl_u ri e (iv (rc e))) D (rq_put H (rc e) (sd e) (iv (rc e)) (si e + 1)) := by
  obtain ⟨i1, i2, i3, i4, i5, i6⟩ := hI
  obtain ⟨t1, t2, t3, t4, t5⟩ := hMs.1 e
  obtain ⟨e1, e2⟩ := i3 e he (by omega)
  have hge : ∀ a b i, H a b i ≤ rq_put H (rc e) (sd e) (iv (rc e)) (si e + 1) a b i := by
    intro a b i
    unfold rq_put
    by_cases z : (a = rc e ∧ b = sd e ∧ i = iv (rc e)) ∧ H (rc e) (sd e) (iv (rc e)) < si e + 1
    · rw [if_pos z, z.1.1, z.1.2.1, z.1.2.2]; omega
    · rw [if_neg z]; exact Nat.le_refl _
  have hcell : si e + 1 ≤ rq_put H (rc e) (sd e) (iv (rc e)) (si e + 1) (rc e) (sd e) (iv (rc e)) := by
    unfold rq_put
    by_cases z : H (rc e) (sd e) (iv (rc e)) < si e + 1
    · rw [if_pos ⟨⟨rfl, rfl, rfl⟩, z⟩]; exact Nat.le_refl _
    · rw [if_neg (fun w => z w.2)]; omega
  have hCC : ∀ y, rq_C (rq_put H (rc e) (sd e) (iv (rc e)) (si e + 1)) y → rq_C H y := fun y hy r hr s hs hrs j hj => Nat.le_trans (hge r s j) (hy r hr s hs hrs j hj)
  have hCn : ∀ y, rq_C H y → (iv (rc e) < y (rc e) → si e + 1 ≤ y (sd e)) → rq_C (rq_put H (rc e) (sd e) (iv (rc e)) (si e + 1)) y := by
    intro y hy hn r hr s hs hrs j hj
    unfold rq_put
    by_cases z : (r = rc e ∧ s = sd e ∧ j = iv (rc e)) ∧ H (rc e) (sd e) (iv (rc e)) < si e + 1
    · rw [if_pos z]
      rw [z.1.1, z.1.2.2] at hj
      rw [z.1.2.1]
      exact hn hj
    · rw [if_neg z]; exact hy r hr s hs hrs j hj
  refine ⟨i1, fun r s j hj => ?_, fun a ha z => ?_, fun a ha z => ?_, fun r s j hj => ?_, fun T hT M' hM' => ?_⟩
  · unfold rq_put at hj ⊢
    by_cases z : (r = rc e ∧ s = sd e ∧ j = iv (rc e)) ∧ H (rc e) (sd e) (iv (rc e)) < si e + 1
    · rw [if_pos z, z.1.1, z.1.2.1, z.1.2.2]
      exact ⟨t3, t2, fun w => e1 w.symm, Nat.le_refl _, by omega⟩
    · rw [if_neg z] at hj ⊢; exact i2 r s j hj
  · by_cases ae : a = e
    · rw [ae]; exact ⟨e1, e2⟩
    · rw [rl_un ae] at z; exact i3 a ha z
  · by_cases ae : a = e
    · rw [ae, rl_us]; exact hcell
    · rw [rl_un ae] at z ⊢
      exact Nat.le_trans (i4 a ha z) (hge _ _ _)
  · by_cases z : (r = rc e ∧ s = sd e ∧ j = iv (rc e)) ∧ H (rc e) (sd e) (iv (rc e)) < si e + 1
    · refine Or.inl ⟨e, he, rl_us, z.1.1.symm, z.1.2.1.symm, by rw [rl_us]; exact z.1.2.2.symm, ?_⟩
      unfold rq_put
      rw [if_pos z]
    · have hH : rq_put H (rc e) (sd e) (iv (rc e)) (si e + 1) r s j = H r s j := if_neg z
      rw [hH] at hj ⊢
      rcases i5 r s j hj with ⟨a, ha, h2, w1, w2, w3, w4⟩ | w
      · have ae : a ≠ e := by
          intro y
          rw [y] at h2; omega
        exact Or.inl ⟨a, ha, by rw [rl_un ae]; exact h2, w1, w2, by rw [rl_un ae]; exact w3, w4⟩
      · refine Or.inr (fun M' hM' => ?_)
        obtain ⟨Ma, hMa⟩ := rq_ex n iv (fun _ => true) H
        have hs := (i2 r s j hj).2.1
        refine Nat.le_trans (w Ma hMa) (hM'.2.2 Ma hMa.1 (hCn Ma hMa.2.1 (fun y => ?_)) s (by omega))
        have := hMa.1 (rc e) (by omega)
        rw [rq_top_t t3 rfl] at this
        omega
  · obtain ⟨M0, hM0⟩ := rq_ex n iv T H
    have hle0 := hM0.2.2 M' hM'.1 (hCC M' hM'.2.1)
    by_cases A : iv (rc e) < M0 (rc e) → si e + 1 ≤ M0 (sd e)
    · have hge0 := hM'.2.2 M0 hM0.1 (hCn M0 hM0.2.1 A)
      intro p hp
      have a1 := hle0 p (by omega)
      have a2 := hge0 p (by omega)
      have a3 : M' p = M0 p := by omega
      rw [a3]
      exact i6 T hT M0 hM0 p hp
    · have A1 : iv (rc e) < M0 (rc e) ∧ ¬ si e + 1 ≤ M0 (sd e) := by
        refine ⟨?_, fun y => A (fun _ => y)⟩
        apply Classical.byContradiction
        intro y
        exact A (fun w => absurd w y)
      obtain ⟨M1, hM1⟩ := rq_ex n iv (fun q => if q = rc e then true else T q) H
      have hT1r : (fun q => if q = rc e then true else T q) (rc e) = true := by
        show (if rc e = rc e then true else T (rc e)) = true
        rw [if_pos rfl]
      have hT1 : ∀ q, q < n → T q = true → (fun q => if q = rc e then true else T q) q = true := by
        intro q _ hq
        show (if q = rc e then true else T q) = true
        split
        · rfl
        · exact hq
      have h1r := hM1.1 (rc e) (by omega)
      rw [rq_top_t t3 hT1r] at h1r
      have hr' : M' (rc e) ≤ iv (rc e) := by
        apply Classical.byContradiction
        intro y
        have y1 := hM'.2.1 (rc e) (by omega) (sd e) (by omega) (fun w => e1 w.symm) (iv (rc e)) (by omega)
        have y2 := hle0 (sd e) (by omega)
        omega
      have hA := hM1.2.2 M' (fun q hq => ?_) (hCC M' hM'.2.1)
      · have hB := hM'.2.2 M1 (fun q hq => ?_) (hCn M1 hM1.2.1 (fun y => absurd y (by omega)))
        · intro p hp
          have a1 := hA p (by omega)
          have a2 := hB p (by omega)
          have a3 : M' p = M1 p := by omega
          rw [a3]
          exact i6 _ (fun q hq hd => hT1 q hq (hT q hq hd)) M1 hM1 p hp
        · by_cases a : q < n
          · by_cases b : T q = true
            · have := hM1.1 q hq
              rw [rq_top_t a (hT1 q a b)] at this
              rw [rq_top_t a b]; exact this
            · rw [rq_top_f a b]
              exact Nat.le_trans (hM1.1 q hq) rq_top_le
          · have := hM1.1 q hq
            rw [rq_top_o a] at this ⊢
            exact this
      · by_cases a : q < n
        · by_cases b : q = rc e
          · rw [b, rq_top_t t3 hT1r]; exact hr'
          · have h3 := hM'.1 q hq
            by_cases d : T q = true
            · rw [rq_top_t a d] at h3
              rw [rq_top_t a (hT1 q a d)]; exact h3
            · rw [rq_top_f a d] at h3
              have d' : ¬ (fun q => if q = rc e then true else T q) q = true := by
                show ¬ (if q = rc e then true else T q) = true
                rw [if_neg b]; exact d
              rw [rq_top_f a d']; exact h3
        · have h3 := hM'.1 q hq
          rw [rq_top_o a] at h3 ⊢
          exact h3
end
end
section
section
variable {n c m : Nat} {iv ct st sd rc si ri : Nat → Nat} {g : Nat → Nat → Nat}
variable {D : Nat → Bool} {H : Nat → Nat → Nat → Nat}
theorem rq_I_reclaim (n4 : n ≤ 4) (hMs : rl_Msg n m iv st sd rc si ri) (hI : rq_I n m iv ct g st sd rc si ri D H) {ct' : Nat → Nat} {g' : Nat → Nat → Nat} {st' : Nat → Nat}
    (hkeep : ∀ T : Nat → Bool, (∀ p, p < n → D p = true → T p = true) → ∀ M, rl_IsL 4 (rq_top n iv T) (rq_C H) M → ∀ p, p < n → ∀ k, k < ct p → g p k = M p → ∃ j, j < ct' p ∧ g' p j = M p)
    (hst : ∀ e, st' e = st e ∨ (st' e = 0 ∧ st e = 2 ∧ ∀ M, rl_IsL 4 (rq_top n iv (fun _ => true)) (rq_C H) M → ri e < M (rc e))) :
    rq_I n m iv ct' g' st' sd rc si ri D H := by
  obtain ⟨i1, i2, i3, i4, i5, i6⟩ := hI
  refine ⟨i1, i2, fun e he z => ?_, fun e he z => ?_, fun r s j hj => ?_, fun T hT M hM p hp => ?_⟩
  · rcases hst e with a | a
    · exact i3 e he (by omega)
    · exact absurd a.1 z
  · rcases hst e with a | a
    · exact i4 e he (by omega)
    · omega
  · rcases i5 r s j hj with ⟨e, he, h2, w1, w2, w3, w4⟩ | w
    · rcases hst e with a | a
      · exact Or.inl ⟨e, he, by omega, w1, w2, w3, w4⟩
      · refine Or.inr (fun M hM => ?_)
        obtain ⟨b1, b2, b3, b4, b5⟩ := i2 r s j hj
        have h3 := a.2.2 M hM
        rw [w1, w3] at h3
        exact hM.2.1 r (by omega) s (by omega) b3 j h3
    · exact Or.inr w
  · rcases i6 T hT M hM p hp with a | ⟨k, hk, ek⟩
    · exact Or.inl a
    · exact Or.inr (hkeep T hT M hM p hp k hk ek)
theorem rl_rb_0 {x : Nat → Nat} {e : Nat} (h : ¬ rl_rb st sd rc si ri x e = 0) : ¬ st e = 0 ∧ si e < x (sd e) := by
  unfold rl_rb at h
  by_cases z : st e = 0
  · rw [if_pos z] at h; exact absurd rfl h
  · rw [if_neg z] at h
    refine ⟨z, ?_⟩
    by_cases a : si e < x (sd e)
    · exact a
    · rw [if_neg a] at h; exact absurd rfl h
theorem rl_rb_2 {x : Nat → Nat} {e : Nat} (h : rl_rb st sd rc si ri x e = 2) : st e = 2 ∧ ri e < x (rc e) := by
  unfold rl_rb at h
  by_cases z : st e = 0
  · rw [if_pos z] at h; omega
  · rw [if_neg z] at h
    by_cases a : si e < x (sd e)
    · rw [if_pos a] at h
      by_cases b : st e = 2 ∧ ¬ ri e < x (rc e)
      · rw [if_pos b] at h; omega
      · rw [if_neg b] at h
        refine ⟨h, ?_⟩
        apply Classical.byContradiction
        intro w
        exact b ⟨h, w⟩
    · rw [if_neg a] at h; omega
theorem rl_rb_i {x : Nat → Nat} {e : Nat} (h : st e = 2) (h1 : si e < x (sd e)) (h2 : ri e < x (rc e)) : rl_rb st sd rc si ri x e = 2 := by
  unfold rl_rb
  rw [if_neg (by omega), if_pos h1, if_neg (fun z => z.2 h2)]
  exact h
theorem rq_I_recover (n4 : n ≤ 4) (hS : rl_Sto n c iv ct g) (hMs : rl_Msg n m iv st sd rc si ri) (hI : rq_I n m iv ct g st sd rc si ri D H) {x L : Nat → Nat}
    (hx : rl_IsL 4 (rq_top n iv D) (rq_C H) x) (hxL : ∀ p, p < n → x p = rl_G ct g iv p (L p)) :
    rq_I n m (fun p => if p < n ∧ L p < ct p then g p (L p) else iv p) (fun p => if p < n ∧ L p < ct p then L p + 1 else ct p) g
      (fun s => if s < m then rl_rb st sd rc si ri (fun p => rl_G ct g iv p (L p)) s else st s) sd rc si ri (fun _ => false) (fun r s j => if j < x r then H r s j else 0) := by
  obtain ⟨i1, i2, i3, i4, i5, i6⟩ := hI
  have F : ∀ p, p < n → (x p ≤ iv p ∧ (if p < n ∧ L p < ct p then g p (L p) else iv p) = x p ∧ (if p < n ∧ L p < ct p then L p + 1 else ct p) = L p + 1 ∧ L p < ct p ∧ g p (L p) = x p) ∨
      (x p = iv p + 1 ∧ (if p < n ∧ L p < ct p then g p (L p) else iv p) = iv p ∧ (if p < n ∧ L p < ct p then L p + 1 else ct p) = ct p) := by
    intro p hp
    by_cases a : L p < ct p
    · have h1 := hxL p hp
      rw [rl_G_in a] at h1
      have h2 := (hS p hp).2.2.2.1 _ a
      refine Or.inl ⟨by omega, ?_, if_pos ⟨hp, a⟩, a, h1.symm⟩
      rw [if_pos ⟨hp, a⟩]; exact h1.symm
    · have h1 := hxL p hp
      rw [rl_G_now a] at h1
      exact Or.inr ⟨h1, if_neg (fun z => a z.2), if_neg (fun z => a z.2)⟩
  have hsx : ∀ e, e < m → ¬ (if e < m then rl_rb st sd rc si ri (fun p => rl_G ct g iv p (L p)) e else st e) = 0 → ¬ st e = 0 ∧ si e < x (sd e) := by
    intro e he h
    rw [if_pos he] at h
    have := rl_rb_0 h
    rw [hxL _ (hMs.1 e).2.1]
    exact this
  have hs2 : ∀ e, e < m → (if e < m then rl_rb st sd rc si ri (fun p => rl_G ct g iv p (L p)) e else st e) = 2 → st e = 2 ∧ ri e < x (rc e) := by
    intro e he h
    rw [if_pos he] at h
    have := rl_rb_2 h
    rw [hxL _ (hMs.1 e).2.2.1]
    exact this
  refine ⟨fun p hp => ?_, fun r s j hj => ?_, fun e he z => ?_, fun e he z => ?_, fun r s j hj => ?_, fun T _ y hy p hp => ?_⟩
  · show (if p < n ∧ L p < ct p then g p (L p) else iv p) ≤ 14
    have := i1 p hp
    rcases F p hp with f | f <;> omega
  · have hj' : 0 < if j < x r then H r s j else 0 := hj
    show r < n ∧ s < n ∧ r ≠ s ∧ j ≤ (if r < n ∧ L r < ct r then g r (L r) else iv r) ∧ (if j < x r then H r s j else 0) ≤ (if s < n ∧ L s < ct s then g s (L s) else iv s) + 1
    by_cases a : j < x r
    · rw [if_pos a] at hj' ⊢
      obtain ⟨b1, b2, b3, b4, b5⟩ := i2 r s j hj'
      have hc := hx.2.1 r (by omega) s (by omega) b3 j a
      refine ⟨b1, b2, b3, ?_, ?_⟩
      · rcases F r b1 with f | f <;> omega
      · rcases F s b2 with f | f <;> omega
    · rw [if_neg a] at hj'; omega
  · obtain ⟨a1, a2⟩ := hsx e he z
    obtain ⟨b1, b2⟩ := i3 e he a1
    refine ⟨b1, ?_⟩
    show si e ≤ if sd e < n ∧ L (sd e) < ct (sd e) then g (sd e) (L (sd e)) else iv (sd e)
    rcases F (sd e) (hMs.1 e).2.1 with f | f <;> omega
  · obtain ⟨a1, a2⟩ := hs2 e he z
    show si e + 1 ≤ if ri e < x (rc e) then H (rc e) (sd e) (ri e) else 0
    rw [if_pos a2]
    exact i4 e he a1
  · have hj' : 0 < if j < x r then H r s j else 0 := hj
    show (∃ e, e < m ∧ (if e < m then rl_rb st sd rc si ri (fun p => rl_G ct g iv p (L p)) e else st e) = 2 ∧ rc e = r ∧ sd e = s ∧ ri e = j ∧ si e + 1 = if j < x r then H r s j else 0) ∨
      ∀ M, rl_IsL 4 (rq_top n (fun p => if p < n ∧ L p < ct p then g p (L p) else iv p) (fun _ => true)) (rq_C (fun r s j => if j < x r then H r s j else 0)) M → (if j < x r then H r s j else 0) ≤ M s
    by_cases a : j < x r
    · rw [if_pos a] at hj' ⊢
      obtain ⟨b1, b2, b3, b4, b5⟩ := i2 r s j hj'
      have hc := hx.2.1 r (by omega) s (by omega) b3 j a
      rcases i5 r s j hj' with ⟨e, he, h2, w1, w2, w3, w4⟩ | w
      · refine Or.inl ⟨e, he, ?_, w1, w2, w3, w4⟩
        rw [if_pos he]
        refine rl_rb_i h2 ?_ ?_
        · show si e < rl_G ct g iv (sd e) (L (sd e))
          rw [← hxL _ (hMs.1 e).2.1, w2]; omega
        · show ri e < rl_G ct g iv (rc e) (L (rc e))
          rw [← hxL _ (hMs.1 e).2.2.1, w1, w3]; exact a
      · refine Or.inr (fun M hM => ?_)
        obtain ⟨Ma, hMa⟩ := rq_ex n iv (fun _ => true) H
        have hmx := rq_mono (T := D) (T' := fun _ => true) (fun _ _ _ => rfl) hx hMa
        refine Nat.le_trans (w Ma hMa) (hM.2.2 Ma (fun q hq => ?_) (fun r' hr' s' hs' hrs' j' hj2 => ?_) s (by omega))
        · by_cases b : q < n
          · rw [rq_top_t b rfl]
            show Ma q ≤ if q < n ∧ L q < ct q then g q (L q) else iv q
            have h1 := hMa.1 q hq
            rw [rq_top_t b rfl] at h1
            have h2 := hmx q hq
            rcases F q b with f | f <;> omega
          · have h1 := hMa.1 q hq
            rw [rq_top_o b] at h1 ⊢
            exact h1
        · show (if j' < x r' then H r' s' j' else 0) ≤ Ma s'
          have := hMa.2.1 r' hr' s' hs' hrs' j' hj2
          split <;> omega
    · rw [if_neg a] at hj'; omega
  · show y p = (if p < n ∧ L p < ct p then g p (L p) else iv p) + 1 ∨ ∃ k, k < (if p < n ∧ L p < ct p then L p + 1 else ct p) ∧ g p k = y p
    obtain ⟨z, hz⟩ := rq_ex n iv (fun q => T q || D q) H
    have hTD1 : ∀ q, D q = true → (fun q => T q || D q) q = true := by
      intro q h
      show (T q || D q) = true
      rw [h, Bool.or_true]
    have hTD2 : ∀ q, T q = true → (fun q => T q || D q) q = true := by
      intro q h
      show (T q || D q) = true
      rw [h, Bool.true_or]
    have hzx := rq_mono (T := D) (T' := fun q => T q || D q) (fun q _ h => hTD1 q h) hx hz
    have hyt : ∀ q, q < n → (T q = true → y q ≤ if q < n ∧ L q < ct q then g q (L q) else iv q) ∧ y q ≤ (if q < n ∧ L q < ct q then g q (L q) else iv q) + 1 := by
      intro q hq
      have h1 := hy.1 q (by omega)
      refine ⟨fun t => ?_, Nat.le_trans h1 rq_top_le⟩
      rw [rq_top_t hq t] at h1
      exact h1
    have hzt : ∀ q, q < n → (T q = true → z q ≤ iv q) := by
      intro q hq t
      have h1 := hz.1 q (by omega)
      rw [rq_top_t hq (hTD2 q t)] at h1
      exact h1
    have hw := hz.2.2 (fun q => if y q ≤ x q then y q else x q) (fun q hq => ?_) (fun r hr s hs hrs j hj => ?_)
    · have hzy := hy.2.2 z (fun q hq => ?_) (fun r hr s hs hrs j hj => ?_)
      · have hyp := hyt p hp
        have hwp : (if y p ≤ x p then y p else x p) ≤ z p := hw p (by omega)
        have hzyp := hzy p (by omega)
        have h6 := i6 (fun q => T q || D q) (fun q _ h => hTD1 q h) z hz p hp
        obtain ⟨s1, s2, s3, s4, s5⟩ := hS p hp
        rcases F p hp with f | f
        · obtain ⟨f1, f2, f3, f4, f5⟩ := f
          rw [f2] at hyp ⊢
          rw [f3]
          by_cases l : y p ≤ x p
          · rw [if_pos l] at hwp
            have e1 : y p = z p := by omega
            rcases h6 with h6 | ⟨k, hk, ek⟩
            · omega
            · refine Or.inr ⟨k, ?_, by omega⟩
              by_cases q : L p < k
              · have := s3 _ _ q hk; omega
              · omega
          · exact Or.inl (by omega)
        · obtain ⟨f1, f2, f3⟩ := f
          rw [f2] at hyp ⊢
          rw [f3]
          by_cases l : y p ≤ iv p
          · rw [if_pos (by omega)] at hwp
            have e1 : y p = z p := by omega
            rcases h6 with h6 | ⟨k, hk, ek⟩
            · omega
            · exact Or.inr ⟨k, hk, by omega⟩
          · exact Or.inl (by omega)
      · have h1 := hzx q hq
        by_cases b : q < n
        · by_cases t : T q = true
          · rw [rq_top_t b t]
            show z q ≤ if q < n ∧ L q < ct q then g q (L q) else iv q
            have h2 := hzt q b t
            rcases F q b with f | f <;> omega
          · rw [rq_top_f b t]
            show z q ≤ (if q < n ∧ L q < ct q then g q (L q) else iv q) + 1
            rcases F q b with f | f <;> omega
        · have h2 := hz.1 q hq
          rw [rq_top_o b] at h2 ⊢
          exact h2
      · show (if j < x r then H r s j else 0) ≤ z s
        have := hz.2.1 r hr s hs hrs j hj
        split <;> omega
    · show (if y q ≤ x q then y q else x q) ≤ _
      have hm1 : (if y q ≤ x q then y q else x q) ≤ x q := by split <;> omega
      have hm2 : (if y q ≤ x q then y q else x q) ≤ y q := by split <;> omega
      have h1 := hx.1 q hq
      by_cases b : q < n
      · by_cases t : (fun q => T q || D q) q = true
        · rw [rq_top_t b t]
          by_cases d : D q = true
          · rw [rq_top_t b d] at h1; omega
          · have t2 : T q = true := by
              have t' : (T q || D q) = true := t
              rw [Bool.or_eq_true] at t'
              exact t'.resolve_right d
            have h2 := (hyt q b).1 t2
            rcases F q b with f | f <;> omega
        · rw [rq_top_f b t]
          have h2 : x q ≤ iv q + 1 := Nat.le_trans h1 rq_top_le
          omega
      · rw [rq_top_o b] at h1 ⊢; omega
    · have hj' : j < if y r ≤ x r then y r else x r := hj
      show H r s j ≤ if y s ≤ x s then y s else x s
      have l1 : j < y r := by
        by_cases a : y r ≤ x r
        · rw [if_pos a] at hj'; exact hj'
        · rw [if_neg a] at hj'; omega
      have l2 : j < x r := by
        by_cases a : y r ≤ x r
        · rw [if_pos a] at hj'; omega
        · rw [if_neg a] at hj'; exact hj'
      have c1 : (if j < x r then H r s j else 0) ≤ y s := hy.2.1 r hr s hs hrs j l1
      rw [if_pos l2] at c1
      have c2 := hx.2.1 r hr s hs hrs j l2
      split <;> omega
end
end
section
/-- nibble i of a long -/
def nk_v (h : Int64) (i : Nat) : Nat := h.toBitVec.toNat / 2 ^ (4 * i) % 16
theorem nk_lt (h : Int64) (i : Nat) : nk_v h i < 16 := Nat.mod_lt _ (by omega)
theorem nk_lN {N : Nat} (hN : N < 2 ^ 64) (i : Nat) : nk_v (lN N) i = N / 2 ^ (4 * i) % 16 := by
  unfold nk_v
  rw [wb_tn hN]
theorem nk_0 (i : Nat) : nk_v 0 i = 0 := by
  have : nk_v (lN 0) i = 0 / 2 ^ (4 * i) % 16 := nk_lN (by decide) i
  rw [Nat.zero_div] at this
  exact this
theorem nk_4 (i : Nat) : (4 : Int32) * nI i = nI (4 * i) := pk_mul 4 i
theorem nk_nib (h : Int64) {i : Nat} (hi : i < 16) : ((h.toUInt64 >>> ((4 * nI i).toInt64.toUInt64 &&& Int64.toUInt64 63)).toInt64 &&& 15).toInt32 = nI (nk_v h i) := by
  obtain ⟨N, hN, rfl⟩ := wb_of h
  rw [nk_4, wb_shr hN (by omega), nk_lN hN]
  have h2 : N / 2 ^ (4 * i) < 2 ^ 64 := Nat.lt_of_le_of_lt (Nat.div_le_self _ _) hN
  have h3 : lN (N / 2 ^ (4 * i)) &&& 15 = lN (N / 2 ^ (4 * i) % 16) := wb_mask (k := 4) h2 (by decide)
  rw [h3, lN_i]
theorem nk_bit {N : Nat} (hN : N < 2 ^ 64) (i t : Nat) : (nk_v (lN N) i).testBit t = (decide (t < 4) && N.testBit (4 * i + t)) := by
  rw [nk_lN hN, show (16 : Nat) = 2 ^ 4 from rfl, Nat.testBit_mod_two_pow, ← Nat.shiftRight_eq_div_pow, Nat.testBit_shiftRight]
/-- the nibbles of two longs are the same where the bits are -/
theorem nk_ext {N M : Nat} (hN : N < 2 ^ 64) (hM : M < 2 ^ 64) {i j : Nat} (h : ∀ t, t < 4 → N.testBit (4 * i + t) = M.testBit (4 * j + t)) : nk_v (lN N) i = nk_v (lN M) j := by
  apply Nat.eq_of_testBit_eq
  intro t
  rw [nk_bit hN, nk_bit hM]
  by_cases ht : t < 4
  · rw [h t ht]
  · simp [ht]
theorem nk_bits (h : Int64) : ∃ N, N < 2 ^ 64 ∧ h = lN N ∧ ∀ k, h.toBitVec.getLsbD k = N.testBit k := by
  obtain ⟨N, hN, rfl⟩ := wb_of h
  refine ⟨N, hN, rfl, fun k => ?_⟩
  show (lN N).toBitVec.toNat.testBit k = N.testBit k
  rw [wb_tn hN]
theorem nk_m1 (k : Nat) (hk : k < 64) : (-1 : Int64).toBitVec.getLsbD k = true := by
  have h : (-1 : Int64).toBitVec = BitVec.allOnes 64 := by decide
  rw [h, BitVec.getLsbD_allOnes]
  exact decide_eq_true hk
theorem nk_setb (h : Int64) {i v : Nat} (hi : i < 16) (hv : v < 16) {k : Nat} (hk : k < 64) :
    ((h &&& (((15 : Int64) <<< ((4 * nI i).toInt64 &&& 63)) ^^^ (-1))) ||| ((nI v).toInt64 <<< ((4 * nI i).toInt64 &&& 63))).toBitVec.getLsbD k =
      ((h.toBitVec.getLsbD k && !(decide (4 * i ≤ k) && decide (k - 4 * i < 4))) || (decide (4 * i ≤ k) && v.testBit (k - 4 * i))) := by
  rw [nk_4]
  have e1 : (15 : Int64) <<< ((nI (4 * i)).toInt64 &&& 63) = lN (15 * 2 ^ (4 * i)) := wb_shl 15 (by omega)
  have e2 : (nI v).toInt64 = lN v := nI_l (by omega)
  rw [e1, e2, wb_shl v (show 4 * i < 64 by omega)]
  rw [Int64.toBitVec_or, Int64.toBitVec_and, Int64.toBitVec_xor, BitVec.getLsbD_or, BitVec.getLsbD_and, BitVec.getLsbD_xor, nk_m1 k hk, wb_tb, wb_tb, BitVec.getLsbD_ofNat, BitVec.getLsbD_ofNat, Nat.testBit_mul_two_pow, Nat.testBit_mul_two_pow]
  have e3 : (15 : Nat).testBit (k - 4 * i) = decide (k - 4 * i < 4) := Nat.testBit_two_pow_sub_one 4 _
  rw [e3]
  simp [hk]
theorem nk_set (h : Int64) {i v : Nat} (hi : i < 16) (hv : v < 16) {j : Nat} (hj : j < 16) :
    nk_v ((h &&& (((15 : Int64) <<< ((4 * nI i).toInt64 &&& 63)) ^^^ (-1))) ||| ((nI v).toInt64 <<< ((4 * nI i).toInt64 &&& 63))) j = if j = i then v else nk_v h j := by
  have hb := fun k (hk : k < 64) => nk_setb h hi hv hk
  obtain ⟨M, hM, eM, bM⟩ := nk_bits ((h &&& (((15 : Int64) <<< ((4 * nI i).toInt64 &&& 63)) ^^^ (-1))) ||| ((nI v).toInt64 <<< ((4 * nI i).toInt64 &&& 63)))
  obtain ⟨N, hN, eN, bN⟩ := nk_bits h
  by_cases e : j = i
  · rw [if_pos e, eM]
    apply Nat.eq_of_testBit_eq
    intro t
    rw [nk_bit hM]
    by_cases ht : t < 4
    · rw [← bM, hb _ (by omega), e]
      have a1 : 4 * i ≤ 4 * i + t := by omega
      have a2 : 4 * i + t - 4 * i = t := by omega
      rw [a2]
      simp [ht]
    · have hvt : v.testBit t = false := Nat.testBit_lt_two_pow (Nat.lt_of_lt_of_le (show v < 2 ^ 4 from hv) (Nat.pow_le_pow_right (by omega) (by omega)))
      rw [hvt]
      simp [ht]
  · rw [if_neg e, eM, eN]
    refine nk_ext hM hN (fun t ht => ?_)
    rw [← bM, ← bN, hb _ (by omega)]
    by_cases l : 4 * i ≤ 4 * j + t
    · have a1 : ¬ 4 * j + t - 4 * i < 4 := by omega
      have hvt : v.testBit (4 * j + t - 4 * i) = false := Nat.testBit_lt_two_pow (Nat.lt_of_lt_of_le (show v < 2 ^ 4 from hv) (Nat.pow_le_pow_right (by omega) (by omega)))
      rw [hvt]
      simp [a1]
    · simp [l]
theorem nk_keep (h : Int64) {x : Nat} (hx : x < 16) {j : Nat} (hj : j < 16) : nk_v (h &&& (((1 : Int64) <<< ((4 * nI x).toInt64 &&& 63)) - 1)) j = if j < x then nk_v h j else 0 := by
  obtain ⟨N, hN, rfl⟩ := wb_of h
  have e1 : (1 : Int64) <<< ((nI (4 * x)).toInt64 &&& 63) = lN (1 * 2 ^ (4 * x)) := wb_shl 1 (by omega)
  have hp : 1 ≤ 2 ^ (4 * x) := Nat.pow_pos (by omega)
  have e2 : lN (2 ^ (4 * x)) - 1 = lN (2 ^ (4 * x) - 1) := lN_sub hp
  rw [nk_4, e1, Nat.one_mul, e2, wb_mask hN (by omega)]
  have hM : N % 2 ^ (4 * x) < 2 ^ 64 := Nat.lt_of_le_of_lt (Nat.mod_le _ _) hN
  by_cases l : j < x
  · rw [if_pos l]
    refine nk_ext hM hN (fun t ht => ?_)
    rw [Nat.testBit_mod_two_pow]
    have : 4 * j + t < 4 * x := by omega
    simp [this]
  · rw [if_neg l, nk_lN hM]
    have h1 : N % 2 ^ (4 * x) < 2 ^ (4 * x) := Nat.mod_lt _ hp
    have h2 : 2 ^ (4 * x) ≤ 2 ^ (4 * j) := Nat.pow_le_pow_right (by omega) (by omega)
    rw [Nat.div_eq_of_lt (Nat.lt_of_lt_of_le h1 h2)]
theorem nk_or32 (a b : Nat) : nI a ||| nI b = nI (a ||| b) := by
  apply Int32.toBitVec_inj.1
  show BitVec.ofNat 32 a ||| BitVec.ofNat 32 b = BitVec.ofNat 32 (a ||| b)
  apply BitVec.eq_of_getLsbD_eq
  intro i hi
  simp [hi]
theorem nk_or4 {a b : Nat} (ha : a < 2 ^ 4) : a ||| b * 16 = b * 16 + a := by
  have := Nat.two_pow_add_eq_or_of_lt ha b
  rw [Nat.or_comm, Nat.mul_comm b 16]
  exact this.symm
theorem nk_or8 {a b : Nat} (ha : a < 2 ^ 8) : a ||| b * 256 = b * 256 + a := by
  have := Nat.two_pow_add_eq_or_of_lt ha b
  rw [Nat.or_comm, Nat.mul_comm b 256]
  exact this.symm
theorem nk_or12 {a b : Nat} (ha : a < 2 ^ 12) : a ||| b * 4096 = b * 4096 + a := by
  have := Nat.two_pow_add_eq_or_of_lt ha b
  rw [Nat.or_comm, Nat.mul_comm b 4096]
  exact this.symm
/-- four numbers below 16 in one long -/
theorem nk_pack {a b c d : Nat} (ha : a < 16) (hb : b < 16) (hc : c < 16) (hd : d < 16) :
    ∃ z, (((nI a ||| (nI b <<< ((4 : Int32) &&& 31))) ||| (nI c <<< ((8 : Int32) &&& 31))) ||| (nI d <<< ((12 : Int32) &&& 31))).toInt64 = z ∧ nk_v z 0 = a ∧ nk_v z 1 = b ∧ nk_v z 2 = c ∧ nk_v z 3 = d := by
  refine ⟨_, rfl, ?_⟩
  have e4 : nI b <<< ((4 : Int32) &&& 31) = nI (b * 16) := pk_shlN _ 4 (by decide) (by omega)
  have e8 : nI c <<< ((8 : Int32) &&& 31) = nI (c * 256) := pk_shlN _ 8 (by decide) (by omega)
  have e12 : nI d <<< ((12 : Int32) &&& 31) = nI (d * 4096) := pk_shlN _ 12 (by decide) (by omega)
  rw [e4, e8, e12, nk_or32, nk_or4 (by omega), nk_or32, nk_or8 (by omega), nk_or32, nk_or12 (by omega), nI_l (by omega), nk_lN (by omega), nk_lN (by omega), nk_lN (by omega), nk_lN (by omega)]
  refine ⟨?_, ?_, ?_, ?_⟩
  · show (d * 4096 + (c * 256 + (b * 16 + a))) / 1 % 16 = a
    omega
  · show (d * 4096 + (c * 256 + (b * 16 + a))) / 16 % 16 = b
    omega
  · show (d * 4096 + (c * 256 + (b * 16 + a))) / 256 % 16 = c
    omega
  · show (d * 4096 + (c * 256 + (b * 16 + a))) / 4096 % 16 = d
    omega
end
section
theorem bq_1 : ∀ i, i < 32 → bt 1 i = decide (i = 0) := by decide +kernel
theorem bq_and1 (y : Int32) : (y &&& 1) = 0 ↔ bt y 0 = false := by
  constructor
  · intro h
    have h1 : bt (y &&& 1) 0 = bt 0 0 := by rw [h]
    rw [b_and, b_0, bq_1 0 (by omega)] at h1
    simpa using h1
  · intro h
    refine b_ext (fun i hi => ?_)
    rw [b_and, b_0, bq_1 i hi]
    by_cases e : i = 0
    · rw [e, h]; rfl
    · simp [e]
theorem bq_shr (x : Int32) {p : Nat} (hp : p < 32) : ((x >>> (nI p &&& 31)) &&& 1) = 0 ↔ bt x p = false := by
  rw [bq_and1, b_sshr p hp x (i := 0) (by omega), if_pos (by omega), Nat.add_zero]
theorem bq_shl1 {p i : Nat} (hp : p < 32) (hi : i < 32) : bt ((1 : Int32) <<< (nI p &&& 31)) i = decide (i = p) := by
  rw [b_shl p hp 1 hi]
  by_cases l : p ≤ i
  · rw [bq_1 _ (by omega)]
    by_cases e : i = p
    · have : i - p = 0 := by omega
      simp [l, e]
    · have : ¬ i - p = 0 := by omega
      simp [this, e]
  · have e : ¬ i = p := by omega
    simp [l, e]
theorem bq_shl (x : Int32) {p : Nat} (hp : p < 32) : (x &&& ((1 : Int32) <<< (nI p &&& 31))) = 0 ↔ bt x p = false := by
  constructor
  · intro h
    have h1 : bt (x &&& ((1 : Int32) <<< (nI p &&& 31))) p = bt 0 p := by rw [h]
    rw [b_and, b_0, bq_shl1 hp hp] at h1
    simpa using h1
  · intro h
    refine b_ext (fun i hi => ?_)
    rw [b_and, b_0, bq_shl1 hp hi]
    by_cases e : i = p
    · rw [e, h]; rfl
    · simp [e]
theorem wl_nib {post : Int32 → Prop} {u : St0} {h : Int64} {i : Nat} (hi : i < 16) (k : post (nI (nk_v h i))) : wpL_nib post u h (nI i) := by
  unfold wpL_nib
  rw [nk_nib h hi]
  exact k
theorem wl_set {post : Int64 → Prop} {u : St0} {h : Int64} {i v : Nat} (hi : i < 16) (hv : v < 16) (k : ∀ z, (∀ j, j < 16 → nk_v z j = if j = i then v else nk_v h j) → post z) : wpL_set post u h (nI i) (nI v) :=
  k _ (fun j hj => nk_set h hi hv hj)
theorem wl_keep {post : Int64 → Prop} {u : St0} {h : Int64} {x : Nat} (hx : x < 16) (k : ∀ z, (∀ j, j < 16 → nk_v z j = if j < x then nk_v h j else 0) → post z) : wpL_keep post u h (nI x) :=
  k _ (fun j hj => nk_keep h hx hj)
theorem wl_cut_l {post : Int32 → Prop} {h : Int64} {xs xr : Nat} (hxs : xs < 16) (hxr : xr < 16) (k : ∀ c, c ≤ xr → (∀ j, j < c → nk_v h j ≤ xs) → (c < xr → xs < nk_v h c) → post (nI c)) :
    ∀ (fu j : Nat), xr < fu + j → j ≤ xr → (∀ i, i < j → nk_v h i ≤ xs) → wL_cut_3 post h (nI xs) (nI xr) fu (nI j) := by
  intro fu
  induction fu with
  | zero => intro j q1 q2; omega
  | succ fu ih =>
    intro j q1 q2 q3
    by_cases e : xr ≤ j
    · have e2 : xr = j := by omega
      simp (disch := omega) only [wL_cut_3, e, forall_eq, Nat.le_refl, rl_10, rl_n10, nI_leI, nI_ltI, nI_eq, vp_in_nI, nI_clamp, nI_1, nI_add, rl_lt0, rl_0le, rl_eq0, rl_eq1, rl_eq2, rl_m1, rl_m8, rl_m100, rl_vb0, rl_vb1, true_implies, forall_const, not_true_eq_false, not_false_eq_true, false_implies, and_true, true_and, implies_true, and_self]
      exact k xr (Nat.le_refl _) (by rw [e2]; exact q3) (fun z => absurd z (by omega))
    · simp (disch := omega) only [wL_cut_3, e, forall_eq, Nat.le_refl, rl_10, rl_n10, nI_leI, nI_ltI, nI_eq, vp_in_nI, nI_clamp, nI_1, nI_add, rl_lt0, rl_0le, rl_eq0, rl_eq1, rl_eq2, rl_m1, rl_m8, rl_m100, rl_vb0, rl_vb1, true_implies, forall_const, not_true_eq_false, not_false_eq_true, false_implies, and_true, true_and, implies_true, and_self]
      refine wl_nib (by omega) ?_
      have hl := nk_lt h j
      by_cases l : nk_v h j ≤ xs
      · simp (disch := omega) only [l, forall_eq, Nat.le_refl, rl_10, rl_n10, nI_leI, nI_ltI, nI_eq, vp_in_nI, nI_clamp, nI_1, nI_add, rl_lt0, rl_0le, rl_eq0, rl_eq1, rl_eq2, rl_m1, rl_m8, rl_m100, rl_vb0, rl_vb1, true_implies, forall_const, not_true_eq_false, not_false_eq_true, false_implies, and_true, true_and, implies_true, and_self]
        refine ih (j + 1) (by omega) (by omega) (fun i hi => ?_)
        by_cases q : i = j
        · rw [q]; exact l
        · exact q3 i (by omega)
      · simp (disch := omega) only [l, forall_eq, Nat.le_refl, rl_10, rl_n10, nI_leI, nI_ltI, nI_eq, vp_in_nI, nI_clamp, nI_1, nI_add, rl_lt0, rl_0le, rl_eq0, rl_eq1, rl_eq2, rl_m1, rl_m8, rl_m100, rl_vb0, rl_vb1, true_implies, forall_const, not_true_eq_false, not_false_eq_true, false_implies, and_true, true_and, implies_true, and_self]
        exact k j (by omega) q3 (fun _ => by omega)
theorem wl_cut {post : Int32 → Prop} {u : St0} {h : Int64} {xs xr : Nat} (hxs : xs < 16) (hxr : xr < 16) (k : ∀ c, c ≤ xr → (∀ j, j < c → nk_v h j ≤ xs) → (c < xr → xs < nk_v h c) → post (nI c)) :
    wpL_cut post u h (nI xs) (nI xr) :=
  ⟨xr + 1, wl_cut_l hxs hxr k (xr + 1) 0 (by omega) (by omega) (fun i hi => absurd hi (by omega))⟩
/-- a cut stays above the line -/
theorem rq_cut {H : Nat → Nat → Nat → Nat} {M : Nat → Nat} (hM : rq_C H M) {h : Int64} {r s xs xr c : Nat} (hr : r < 4) (hs : s < 4) (hrs : r ≠ s) (hh : ∀ j, j < 16 → nk_v h j = H r s j) (h16 : xr < 16)
    (m1 : M r ≤ xr) (m2 : M s ≤ xs) (hc : c < xr → xs < nk_v h c) : M r ≤ c := by
  apply Classical.byContradiction
  intro z
  have h1 := hc (by omega)
  rw [hh c (by omega)] at h1
  have h2 := hM r hr s hs hrs c (by omega)
  omega
def rq_v4 (a b c d : Nat) : Nat → Nat := fun p => if p = 0 then a else if p = 1 then b else if p = 2 then c else d
theorem rq_v4C {H : Nat → Nat → Nat → Nat} {a b c d : Nat} (h01 : ∀ j, j < a → H 0 1 j ≤ b) (h02 : ∀ j, j < a → H 0 2 j ≤ c) (h03 : ∀ j, j < a → H 0 3 j ≤ d)
    (h10 : ∀ j, j < b → H 1 0 j ≤ a) (h12 : ∀ j, j < b → H 1 2 j ≤ c) (h13 : ∀ j, j < b → H 1 3 j ≤ d)
    (h20 : ∀ j, j < c → H 2 0 j ≤ a) (h21 : ∀ j, j < c → H 2 1 j ≤ b) (h23 : ∀ j, j < c → H 2 3 j ≤ d)
    (h30 : ∀ j, j < d → H 3 0 j ≤ a) (h31 : ∀ j, j < d → H 3 1 j ≤ b) (h32 : ∀ j, j < d → H 3 2 j ≤ c) : rq_C H (rq_v4 a b c d) := by
  intro r hr s hs hrs j hj
  have e1 : r = 0 ∨ r = 1 ∨ r = 2 ∨ r = 3 := by omega
  have e2 : s = 0 ∨ s = 1 ∨ s = 2 ∨ s = 3 := by omega
  rcases e1 with e | e | e | e <;> subst e <;> rcases e2 with e | e | e | e <;> subst e
  · exact absurd rfl hrs
  · exact h01 j hj
  · exact h02 j hj
  · exact h03 j hj
  · exact h10 j hj
  · exact absurd rfl hrs
  · exact h12 j hj
  · exact h13 j hj
  · exact h20 j hj
  · exact h21 j hj
  · exact absurd rfl hrs
  · exact h23 j hj
  · exact h30 j hj
  · exact h31 j hj
  · exact h32 j hj
  · exact absurd rfl hrs
/-- the twelve longs hold H -/
def rq_Hs (H : Nat → Nat → Nat → Nat) (a1 a2 a3 b0 b2 b3 c0 c1 c3 d0 d1 d2 : Int64) : Prop :=
  ∀ j, j < 16 → nk_v a1 j = H 0 1 j ∧ nk_v a2 j = H 0 2 j ∧ nk_v a3 j = H 0 3 j ∧ nk_v b0 j = H 1 0 j ∧ nk_v b2 j = H 1 2 j ∧ nk_v b3 j = H 1 3 j ∧
    nk_v c0 j = H 2 0 j ∧ nk_v c1 j = H 2 1 j ∧ nk_v c3 j = H 2 3 j ∧ nk_v d0 j = H 3 0 j ∧ nk_v d1 j = H 3 1 j ∧ nk_v d2 j = H 3 2 j
theorem wl_line_l {post : Int64 → Prop} {H : Nat → Nat → Nat → Nat} {M y0 : Nat → Nat} {a1 a2 a3 b0 b2 b3 c0 c1 c3 d0 d1 d2 : Int64} (hM : rl_IsL 4 y0 (rq_C H) M) (hH : rq_Hs H a1 a2 a3 b0 b2 b3 c0 c1 c3 d0 d1 d2)
    (h15 : ∀ p, p < 4 → y0 p < 16) (hpost : ∀ z, (∀ p, p < 4 → nk_v z p = M p) → post z) :
    ∀ (fu t a b c d : Nat), 64 < fu + t → a ≤ y0 0 → b ≤ y0 1 → c ≤ y0 2 → d ≤ y0 3 → M 0 ≤ a → M 1 ≤ b → M 2 ≤ c → M 3 ≤ d → a + b + c + d + t ≤ 60 →
      wL_line_31 post a1 a2 a3 b0 b2 b3 c0 c1 c3 d0 d1 d2 fu (nI a) (nI b) (nI c) (nI d) (nI t) := by
  have y0' := h15 0 (by omega)
  have y1' := h15 1 (by omega)
  have y2' := h15 2 (by omega)
  have y3' := h15 3 (by omega)
  intro fu
  induction fu with
  | zero => intro t a b c d q1 q2 q3 q4 q5 q6 q7 q8 q9 q10; omega
  | succ fu ih =>
    intro t a b c d q1 q2 q3 q4 q5 q6 q7 q8 q9 q10
    have e64 : ¬ (64 : Int32) ≤ nI t := nI_ge (b := 64) (by omega) (by omega)
    simp (disch := omega) only [wL_line_31, e64, forall_eq, Nat.le_refl, rl_10, rl_n10, nI_leI, nI_ltI, nI_eq, vp_in_nI, nI_clamp, nI_1, nI_add, rl_lt0, rl_0le, rl_eq0, rl_eq1, rl_eq2, rl_m1, rl_m8, rl_m100, rl_vb0, rl_vb1, true_implies, forall_const, not_true_eq_false, not_false_eq_true, false_implies, and_true, true_and, implies_true, and_self]
    refine wl_cut (by omega) (by omega) (fun u7 k7 l7 n7 => ?_)
    have m7 := rq_cut hM.2.1 (r := 0) (s := 3) (by omega) (by omega) (by omega) (fun j hj => (hH j hj).2.2.1) (by omega) q6 q9 n7
    refine wl_cut (by omega) (by omega) (fun u8 k8 l8 n8 => ?_)
    have m8 := rq_cut hM.2.1 (r := 0) (s := 2) (by omega) (by omega) (by omega) (fun j hj => (hH j hj).2.1) (by omega) m7 q8 n8
    refine wl_cut (by omega) (by omega) (fun u9 k9 l9 n9 => ?_)
    have m9 := rq_cut hM.2.1 (r := 0) (s := 1) (by omega) (by omega) (by omega) (fun j hj => (hH j hj).1) (by omega) m8 q7 n9
    refine wl_cut (by omega) (by omega) (fun u10 k10 l10 n10 => ?_)
    have m10 := rq_cut hM.2.1 (r := 1) (s := 3) (by omega) (by omega) (by omega) (fun j hj => (hH j hj).2.2.2.2.2.1) (by omega) q7 q9 n10
    refine wl_cut (by omega) (by omega) (fun u11 k11 l11 n11 => ?_)
    have m11 := rq_cut hM.2.1 (r := 1) (s := 2) (by omega) (by omega) (by omega) (fun j hj => (hH j hj).2.2.2.2.1) (by omega) m10 q8 n11
    refine wl_cut (by omega) (by omega) (fun u12 k12 l12 n12 => ?_)
    have m12 := rq_cut hM.2.1 (r := 1) (s := 0) (by omega) (by omega) (by omega) (fun j hj => (hH j hj).2.2.2.1) (by omega) m11 m9 n12
    refine wl_cut (by omega) (by omega) (fun u13 k13 l13 n13 => ?_)
    have m13 := rq_cut hM.2.1 (r := 2) (s := 3) (by omega) (by omega) (by omega) (fun j hj => (hH j hj).2.2.2.2.2.2.2.2.1) (by omega) q8 q9 n13
    refine wl_cut (by omega) (by omega) (fun u14 k14 l14 n14 => ?_)
    have m14 := rq_cut hM.2.1 (r := 2) (s := 1) (by omega) (by omega) (by omega) (fun j hj => (hH j hj).2.2.2.2.2.2.2.1) (by omega) m13 m12 n14
    refine wl_cut (by omega) (by omega) (fun u15 k15 l15 n15 => ?_)
    have m15 := rq_cut hM.2.1 (r := 2) (s := 0) (by omega) (by omega) (by omega) (fun j hj => (hH j hj).2.2.2.2.2.2.1) (by omega) m14 m9 n15
    refine wl_cut (by omega) (by omega) (fun u16 k16 l16 n16 => ?_)
    have m16 := rq_cut hM.2.1 (r := 3) (s := 2) (by omega) (by omega) (by omega) (fun j hj => (hH j hj).2.2.2.2.2.2.2.2.2.2.2) (by omega) q9 m15 n16
    refine wl_cut (by omega) (by omega) (fun u17 k17 l17 n17 => ?_)
    have m17 := rq_cut hM.2.1 (r := 3) (s := 1) (by omega) (by omega) (by omega) (fun j hj => (hH j hj).2.2.2.2.2.2.2.2.2.2.1) (by omega) m16 m12 n17
    refine wl_cut (by omega) (by omega) (fun u18 k18 l18 n18 => ?_)
    have m18 := rq_cut hM.2.1 (r := 3) (s := 0) (by omega) (by omega) (by omega) (fun j hj => (hH j hj).2.2.2.2.2.2.2.2.2.1) (by omega) m17 m9 n18
    by_cases e : u9 + u12 + u15 + u18 = a + b + c + d
    · have ea : u9 = a := by omega
      have eb : u12 = b := by omega
      have ec : u15 = c := by omega
      have ed : u18 = d := by omega
      have hC : rq_C H (rq_v4 a b c d) := by
        refine rq_v4C (fun j hj => ?_) (fun j hj => ?_) (fun j hj => ?_) (fun j hj => ?_) (fun j hj => ?_) (fun j hj => ?_) (fun j hj => ?_) (fun j hj => ?_) (fun j hj => ?_) (fun j hj => ?_) (fun j hj => ?_) (fun j hj => ?_)
        · have := l9 j (by omega); rw [(hH j (by omega)).1] at this; exact this
        · have := l8 j (by omega); rw [(hH j (by omega)).2.1] at this; exact this
        · have := l7 j (by omega); rw [(hH j (by omega)).2.2.1] at this; exact this
        · have := l12 j (by omega); rw [(hH j (by omega)).2.2.2.1] at this; omega
        · have := l11 j (by omega); rw [(hH j (by omega)).2.2.2.2.1] at this; exact this
        · have := l10 j (by omega); rw [(hH j (by omega)).2.2.2.2.2.1] at this; exact this
        · have := l15 j (by omega); rw [(hH j (by omega)).2.2.2.2.2.2.1] at this; omega
        · have := l14 j (by omega); rw [(hH j (by omega)).2.2.2.2.2.2.2.1] at this; omega
        · have := l13 j (by omega); rw [(hH j (by omega)).2.2.2.2.2.2.2.2.1] at this; exact this
        · have := l18 j (by omega); rw [(hH j (by omega)).2.2.2.2.2.2.2.2.2.1] at this; omega
        · have := l17 j (by omega); rw [(hH j (by omega)).2.2.2.2.2.2.2.2.2.2.1] at this; omega
        · have := l16 j (by omega); rw [(hH j (by omega)).2.2.2.2.2.2.2.2.2.2.2] at this; omega
      have hle := hM.2.2 (rq_v4 a b c d) (fun p hp => ?_) hC
      · have x0 : a ≤ M 0 := hle 0 (by omega)
        have x1 : b ≤ M 1 := hle 1 (by omega)
        have x2 : c ≤ M 2 := hle 2 (by omega)
        have x3 : d ≤ M 3 := hle 3 (by omega)
        obtain ⟨z, ez, z0, z1, z2, z3⟩ := nk_pack (a := u9) (b := u12) (c := u15) (d := u18) (by omega) (by omega) (by omega) (by omega)
        simp (disch := omega) only [e, wL_line_175, forall_eq, Nat.le_refl, rl_10, rl_n10, nI_leI, nI_ltI, nI_eq, vp_in_nI, nI_clamp, nI_1, nI_add, rl_lt0, rl_0le, rl_eq0, rl_eq1, rl_eq2, rl_m1, rl_m8, rl_m100, rl_vb0, rl_vb1, true_implies, forall_const, not_true_eq_false, not_false_eq_true, false_implies, and_true, true_and, implies_true, and_self]
        rw [ez]
        refine hpost z (fun p hp => ?_)
        have e1 : p = 0 ∨ p = 1 ∨ p = 2 ∨ p = 3 := by omega
        rcases e1 with e | e | e | e <;> subst e <;> omega
      · have e1 : p = 0 ∨ p = 1 ∨ p = 2 ∨ p = 3 := by omega
        rcases e1 with e | e | e | e <;> subst e
        · exact q2
        · exact q3
        · exact q4
        · exact q5
    · simp (disch := omega) only [e, forall_eq, Nat.le_refl, rl_10, rl_n10, nI_leI, nI_ltI, nI_eq, vp_in_nI, nI_clamp, nI_1, nI_add, rl_lt0, rl_0le, rl_eq0, rl_eq1, rl_eq2, rl_m1, rl_m8, rl_m100, rl_vb0, rl_vb1, true_implies, forall_const, not_true_eq_false, not_false_eq_true, false_implies, and_true, true_and, implies_true, and_self]
      exact ih (t + 1) u9 u12 u15 u18 (by omega) (by omega) (by omega) (by omega) (by omega) m9 m12 m15 m18 (by omega)
theorem wl_line {post : Int64 → Prop} {u : St0} {x : Int64} {H : Nat → Nat → Nat → Nat} {M : Nat → Nat} {a1 a2 a3 b0 b2 b3 c0 c1 c3 d0 d1 d2 : Int64} {y0 : Nat → Nat} (hM : rl_IsL 4 y0 (rq_C H) M)
    (hH : rq_Hs H a1 a2 a3 b0 b2 b3 c0 c1 c3 d0 d1 d2) (hx : ∀ p, p < 4 → nk_v x p = y0 p) (hpost : ∀ z, (∀ p, p < 4 → nk_v z p = M p) → post z) :
    wpL_line post u x a1 a2 a3 b0 b2 b3 c0 c1 c3 d0 d1 d2 := by
  have h15 : ∀ p, p < 4 → y0 p < 16 := fun p hp => by rw [← hx p hp]; exact nk_lt x p
  have y0' := h15 0 (by omega)
  have y1' := h15 1 (by omega)
  have y2' := h15 2 (by omega)
  have y3' := h15 3 (by omega)
  unfold wpL_line
  refine wl_nib (i := 0) (by omega) ?_
  refine wl_nib (i := 1) (by omega) ?_
  refine wl_nib (i := 2) (by omega) ?_
  refine wl_nib (i := 3) (by omega) ?_
  rw [hx 0 (by omega), hx 1 (by omega), hx 2 (by omega), hx 3 (by omega)]
  exact ⟨65, wl_line_l hM hH h15 hpost 65 0 _ _ _ _ (by omega) (Nat.le_refl _) (Nat.le_refl _) (Nat.le_refl _) (Nat.le_refl _) (hM.1 0 (by omega)) (hM.1 1 (by omega)) (hM.1 2 (by omega)) (hM.1 3 (by omega)) (by omega)⟩
theorem wl_top_l {post : Int64 → Prop} {I : Int64} {t : Int32} {n : Nat} (n4 : n ≤ 4) (h14 : ∀ p, p < n → nk_v I p ≤ 14)
    (hpost : ∀ z, (∀ p, p < 4 → nk_v z p = if p < n ∧ bt t p = false then nk_v I p + 1 else nk_v I p) → post z) :
    ∀ (fu i : Nat) (x : Int64), n < fu + i → i ≤ n → (∀ p, p < 4 → nk_v x p = if p < i ∧ bt t p = false then nk_v I p + 1 else nk_v I p) → wL_top_6 post I t (nI n) fu x (nI i) := by
  intro fu
  induction fu with
  | zero => intro i x q1 q2; omega
  | succ fu ih =>
    intro i x q1 q2 q3
    by_cases e : n ≤ i
    · have e2 : i = n := by omega
      simp (disch := omega) only [wL_top_6, e, forall_eq, Nat.le_refl, rl_10, rl_n10, nI_leI, nI_ltI, nI_eq, vp_in_nI, nI_clamp, nI_1, nI_add, rl_lt0, rl_0le, rl_eq0, rl_eq1, rl_eq2, rl_m1, rl_m8, rl_m100, rl_vb0, rl_vb1, true_implies, forall_const, not_true_eq_false, not_false_eq_true, false_implies, and_true, true_and, implies_true, and_self]
      rw [e2] at q3
      exact hpost x q3
    · have h14i := h14 i (by omega)
      by_cases b : bt t i = false
      · have b2 := (bq_shr t (p := i) (by omega)).mpr b
        simp (disch := omega) only [wL_top_6, e, b2, forall_eq, Nat.le_refl, rl_10, rl_n10, nI_leI, nI_ltI, nI_eq, vp_in_nI, nI_clamp, nI_1, nI_add, rl_lt0, rl_0le, rl_eq0, rl_eq1, rl_eq2, rl_m1, rl_m8, rl_m100, rl_vb0, rl_vb1, true_implies, forall_const, not_true_eq_false, not_false_eq_true, false_implies, and_true, true_and, implies_true, and_self]
        refine wl_nib (by omega) ?_
        simp (disch := omega) only [forall_eq, Nat.le_refl, rl_10, rl_n10, nI_leI, nI_ltI, nI_eq, vp_in_nI, nI_clamp, nI_1, nI_add, rl_lt0, rl_0le, rl_eq0, rl_eq1, rl_eq2, rl_m1, rl_m8, rl_m100, rl_vb0, rl_vb1, true_implies, forall_const, not_true_eq_false, not_false_eq_true, false_implies, and_true, true_and, implies_true, and_self]
        refine wl_set (by omega) (by omega) (fun z hz => ?_)
        refine ih (i + 1) z (by omega) (by omega) (fun p hp => ?_)
        rw [hz p (by omega)]
        by_cases q : p = i
        · rw [if_pos q, q, if_pos ⟨by omega, b⟩]
        · rw [if_neg q, q3 p hp]
          by_cases w : p < i ∧ bt t p = false
          · rw [if_pos w, if_pos ⟨by omega, w.2⟩]
          · rw [if_neg w, if_neg (fun y => w ⟨by omega, y.2⟩)]
      · have b2 : ¬ ((t >>> (nI i &&& 31)) &&& 1) = 0 := fun z => b ((bq_shr t (by omega)).mp z)
        simp (disch := omega) only [wL_top_6, e, b2, forall_eq, Nat.le_refl, rl_10, rl_n10, nI_leI, nI_ltI, nI_eq, vp_in_nI, nI_clamp, nI_1, nI_add, rl_lt0, rl_0le, rl_eq0, rl_eq1, rl_eq2, rl_m1, rl_m8, rl_m100, rl_vb0, rl_vb1, true_implies, forall_const, not_true_eq_false, not_false_eq_true, false_implies, and_true, true_and, implies_true, and_self]
        refine ih (i + 1) x (by omega) (by omega) (fun p hp => ?_)
        rw [q3 p hp]
        by_cases w : p < i ∧ bt t p = false
        · rw [if_pos w, if_pos ⟨by omega, w.2⟩]
        · have w2 : ¬ (p < i + 1 ∧ bt t p = false) := by
            intro y
            by_cases q : p = i
            · rw [q] at y; exact b y.2
            · exact w ⟨by omega, y.2⟩
          rw [if_neg w, if_neg w2]
theorem wl_top {post : Int64 → Prop} {u : St0} {I : Int64} {t : Int32} {n : Nat} (n4 : n ≤ 4) (h14 : ∀ p, p < n → nk_v I p ≤ 14)
    (hpost : ∀ z, (∀ p, p < 4 → nk_v z p = if p < n ∧ bt t p = false then nk_v I p + 1 else nk_v I p) → post z) : wpL_top post u I t (nI n) :=
  ⟨n + 1, wl_top_l n4 h14 hpost (n + 1) 0 I (by omega) (by omega) (fun p _ => by rw [if_neg (fun z => absurd z.1 (by omega))])⟩
end
section
section
variable {n c m : Nat} {iv ct st sd rc si ri : Nat → Nat} {g : Nat → Nat → Nat}
variable {vX IV U CT NB SV ST SD RC PL SI RI LN ND SE : Nat → Int32}
theorem rx_step {post : Int32 → St2 → Prop} {p : Nat} {x : Int32} (hp : p < n) (n4 : n ≤ 4) (h : ∀ r vX', post r (nI n, nI c, nI m, vX', IV, U, CT, NB, SV, ST, SD, RC, PL, SI, RI, LN, ND, SE)) : wpX_step post (nI n, nI c, nI m, vX, IV, U, CT, NB, SV, ST, SD, RC, PL, SI, RI, LN, ND, SE) (nI p) x := by
  simp only [wpX_step]
  refine rx_bad hp n4 ?_
  by_cases a : U p = 0
  · simp (disch := omega) only [a, forall_eq, Nat.le_refl, rl_10, rl_n10, nI_leI, nI_ltI, nI_eq, vp_in_nI, nI_clamp, nI_1, nI_add, rl_lt0, rl_0le, rl_eq0, rl_eq1, rl_eq2, rl_m1, rl_m8, rl_m100, rl_vb0, rl_vb1, true_implies, forall_const, not_true_eq_false, not_false_eq_true, false_implies, and_true, true_and, implies_true, and_self]
    exact h _ _
  · simp (disch := omega) only [a, wpX_mixIn, forall_eq, Nat.le_refl, rl_10, rl_n10, nI_leI, nI_ltI, nI_eq, vp_in_nI, nI_clamp, nI_1, nI_add, rl_lt0, rl_0le, rl_eq0, rl_eq1, rl_eq2, rl_m1, rl_m8, rl_m100, rl_vb0, rl_vb1, true_implies, forall_const, not_true_eq_false, not_false_eq_true, false_implies, and_true, true_and, implies_true, and_self]
    exact h _ _
theorem rx_crash {post : Int32 → St2 → Prop} {p : Nat} (hp : p < n) (n4 : n ≤ 4) (h0 : U p = 0 → post (-2) (nI n, nI c, nI m, vX, IV, U, CT, NB, SV, ST, SD, RC, PL, SI, RI, LN, ND, SE)) (h1 : ¬ U p = 0 → post 0 (nI n, nI c, nI m, vX, IV, upd U p 0, CT, NB, SV, ST, SD, RC, PL, SI, RI, LN, ND, SE)) : wpX_crash post (nI n, nI c, nI m, vX, IV, U, CT, NB, SV, ST, SD, RC, PL, SI, RI, LN, ND, SE) (nI p) := by
  simp only [wpX_crash]
  refine rx_bad hp n4 ?_
  by_cases a : U p = 0
  · simp (disch := omega) only [a, forall_eq, Nat.le_refl, rl_10, rl_n10, nI_leI, nI_ltI, nI_eq, vp_in_nI, nI_clamp, nI_1, nI_add, rl_lt0, rl_0le, rl_eq0, rl_eq1, rl_eq2, rl_m1, rl_m8, rl_m100, rl_vb0, rl_vb1, true_implies, forall_const, not_true_eq_false, not_false_eq_true, false_implies, and_true, true_and, implies_true, and_self]
    exact h0 a
  · simp (disch := omega) only [a, forall_eq, Nat.le_refl, rl_10, rl_n10, nI_leI, nI_ltI, nI_eq, vp_in_nI, nI_clamp, nI_1, nI_add, rl_lt0, rl_0le, rl_eq0, rl_eq1, rl_eq2, rl_m1, rl_m8, rl_m100, rl_vb0, rl_vb1, true_implies, forall_const, not_true_eq_false, not_false_eq_true, false_implies, and_true, true_and, implies_true, and_self]
    exact h1 a
theorem rx_lose {post : Int32 → St2 → Prop} {e : Nat} (he : e < m) (m16 : m ≤ 16) (hST : ST e = nI (st e)) (h2 : st e ≤ 2) (h0 : ¬ st e = 1 → post (-4) (nI n, nI c, nI m, vX, IV, U, CT, NB, SV, ST, SD, RC, PL, SI, RI, LN, ND, SE)) (h1 : st e = 1 → post 0 (nI n, nI c, nI m, vX, IV, U, CT, NB, SV, upd ST e 0, SD, RC, PL, SI, RI, LN, ND, SE)) : wpX_lose post (nI n, nI c, nI m, vX, IV, U, CT, NB, SV, ST, SD, RC, PL, SI, RI, LN, ND, SE) (nI e) := by
  simp only [wpX_lose]
  refine rx_badS he m16 ?_
  by_cases a : st e = 1
  · simp (disch := omega) only [hST, a, forall_eq, Nat.le_refl, rl_10, rl_n10, nI_leI, nI_ltI, nI_eq, vp_in_nI, nI_clamp, nI_1, nI_add, rl_lt0, rl_0le, rl_eq0, rl_eq1, rl_eq2, rl_m1, rl_m8, rl_m100, rl_vb0, rl_vb1, true_implies, forall_const, not_true_eq_false, not_false_eq_true, false_implies, and_true, true_and, implies_true, and_self]
    exact h1 a
  · simp (disch := omega) only [hST, a, forall_eq, Nat.le_refl, rl_10, rl_n10, nI_leI, nI_ltI, nI_eq, vp_in_nI, nI_clamp, nI_1, nI_add, rl_lt0, rl_0le, rl_eq0, rl_eq1, rl_eq2, rl_m1, rl_m8, rl_m100, rl_vb0, rl_vb1, true_implies, forall_const, not_true_eq_false, not_false_eq_true, false_implies, and_true, true_and, implies_true, and_self]
    exact h0 a
theorem rx_deliver (hA : rl_A n c m iv ct g st sd rc si ri IV CT NB ST SD RC SI RI) {post : Int32 → St2 → Prop} {e : Nat} (he : e < m) (h0 : ¬ st e = 1 → post (-4) (nI n, nI c, nI m, vX, IV, U, CT, NB, SV, ST, SD, RC, PL, SI, RI, LN, ND, SE)) (h1 : st e = 1 → U (rc e) = 0 → post (-2) (nI n, nI c, nI m, vX, IV, U, CT, NB, SV, ST, SD, RC, PL, SI, RI, LN, ND, SE))
    (h2 : st e = 1 → ¬ U (rc e) = 0 → ∀ vX', post 0 (nI n, nI c, nI m, vX', IV, U, CT, NB, SV, upd ST e 2, SD, RC, PL, SI, upd RI e (nI (iv (rc e))), LN, ND, SE)) : wpX_deliver post (nI n, nI c, nI m, vX, IV, U, CT, NB, SV, ST, SD, RC, PL, SI, RI, LN, ND, SE) (nI e) := by
  have hA' := hA
  obtain ⟨hW, hIV, hCT, hNB, hST, hSD, hRC, hSI, hRI⟩ := hA'
  have hW' := hW
  obtain ⟨⟨⟨n2, n4⟩, ⟨c3h, c8⟩, ⟨m4, m16⟩⟩, hS, hM, hB⟩ := hW'
  obtain ⟨t1, t2, t3, t4, t5⟩ := hM.1 e
  simp only [wpX_deliver]
  refine rx_badS he m16 ?_
  by_cases a : st e = 1
  · by_cases b : U (rc e) = 0
    · simp (disch := omega) only [hST, hRC, a, b, forall_eq, Nat.le_refl, rl_10, rl_n10, nI_leI, nI_ltI, nI_eq, vp_in_nI, nI_clamp, nI_1, nI_add, rl_lt0, rl_0le, rl_eq0, rl_eq1, rl_eq2, rl_m1, rl_m8, rl_m100, rl_vb0, rl_vb1, true_implies, forall_const, not_true_eq_false, not_false_eq_true, false_implies, and_true, true_and, implies_true, and_self]
      exact h1 a b
    · simp (disch := omega) only [hST, hRC, hIV, a, b, wpX_mixIn, forall_eq, Nat.le_refl, rl_10, rl_n10, nI_leI, nI_ltI, nI_eq, vp_in_nI, nI_clamp, nI_1, nI_add, rl_lt0, rl_0le, rl_eq0, rl_eq1, rl_eq2, rl_m1, rl_m8, rl_m100, rl_vb0, rl_vb1, true_implies, forall_const, not_true_eq_false, not_false_eq_true, false_implies, and_true, true_and, implies_true, and_self]
      exact h2 a b _
  · simp (disch := omega) only [hST, a, forall_eq, Nat.le_refl, rl_10, rl_n10, nI_leI, nI_ltI, nI_eq, vp_in_nI, nI_clamp, nI_1, nI_add, rl_lt0, rl_0le, rl_eq0, rl_eq1, rl_eq2, rl_m1, rl_m8, rl_m100, rl_vb0, rl_vb1, true_implies, forall_const, not_true_eq_false, not_false_eq_true, false_implies, and_true, true_and, implies_true, and_self]
    exact h0 a
theorem rx_checkpoint (hA : rl_A n c m iv ct g st sd rc si ri IV CT NB ST SD RC SI RI) {post : Int32 → St2 → Prop} {p : Nat} (hp : p < n) (h99 : iv p < 99) (h0 : U p = 0 → post (-2) (nI n, nI c, nI m, vX, IV, U, CT, NB, SV, ST, SD, RC, PL, SI, RI, LN, ND, SE)) (h1 : ¬ ct p < c → post (-3) (nI n, nI c, nI m, vX, IV, U, CT, NB, SV, ST, SD, RC, PL, SI, RI, LN, ND, SE))
    (h2 : ¬ U p = 0 → ct p < c → post (nI (iv p + 1)) (nI n, nI c, nI m, vX, upd IV p (nI (iv p + 1)), U, upd CT p (nI (ct p + 1)), upd NB (p * 8 + ct p) (nI (iv p + 1)), upd SV (p * 8 + ct p) (vX p), ST, SD, RC, PL, SI, RI, LN, ND, SE)) : wpX_checkpoint post (nI n, nI c, nI m, vX, IV, U, CT, NB, SV, ST, SD, RC, PL, SI, RI, LN, ND, SE) (nI p) := by
  have hA' := hA
  obtain ⟨hW, hIV, hCT, hNB, hST, hSD, hRC, hSI, hRI⟩ := hA'
  have hW' := hW
  obtain ⟨⟨⟨n2, n4⟩, ⟨c3h, c8⟩, ⟨m4, m16⟩⟩, hS, hM, hB⟩ := hW'
  obtain ⟨s1, s2, s3, s4, s5⟩ := hS p hp
  simp only [wpX_checkpoint]
  refine rx_bad hp n4 ?_
  by_cases a : U p = 0
  · simp (disch := omega) only [a, forall_eq, Nat.le_refl, rl_10, rl_n10, nI_leI, nI_ltI, nI_eq, vp_in_nI, nI_clamp, nI_1, nI_add, rl_lt0, rl_0le, rl_eq0, rl_eq1, rl_eq2, rl_m1, rl_m8, rl_m100, rl_vb0, rl_vb1, true_implies, forall_const, not_true_eq_false, not_false_eq_true, false_implies, and_true, true_and, implies_true, and_self]
    exact h0 a
  · by_cases d : ct p < c
    · simp (disch := omega) only [a, h99, d, hIV, hCT, rl_l99, pk_us, wpX_store, wpX_firstCell, forall_eq, Nat.le_refl, rl_10, rl_n10, nI_leI, nI_ltI, nI_eq, vp_in_nI, nI_clamp, nI_1, nI_add, rl_lt0, rl_0le, rl_eq0, rl_eq1, rl_eq2, rl_m1, rl_m8, rl_m100, rl_vb0, rl_vb1, true_implies, forall_const, not_true_eq_false, not_false_eq_true, false_implies, and_true, true_and, implies_true, and_self]
      exact h2 a d
    · simp (disch := omega) only [a, h99, d, hIV, hCT, rl_l99, forall_eq, Nat.le_refl, rl_10, rl_n10, nI_leI, nI_ltI, nI_eq, vp_in_nI, nI_clamp, nI_1, nI_add, rl_lt0, rl_0le, rl_eq0, rl_eq1, rl_eq2, rl_m1, rl_m8, rl_m100, rl_vb0, rl_vb1, true_implies, forall_const, not_true_eq_false, not_false_eq_true, false_implies, and_true, true_and, implies_true, and_self]
      exact h1 d
theorem rx_send (hA : rl_A n c m iv ct g st sd rc si ri IV CT NB ST SD RC SI RI) {post : Int32 → St2 → Prop} {p q : Nat} (hp : p < n) (hq : q < n) (hpq : p ≠ q) (h0 : U p = 0 → post (-2) (nI n, nI c, nI m, vX, IV, U, CT, NB, SV, ST, SD, RC, PL, SI, RI, LN, ND, SE)) (h1 : post (-3) (nI n, nI c, nI m, vX, IV, U, CT, NB, SV, ST, SD, RC, PL, SI, RI, LN, ND, SE))
    (h2 : ∀ s, s < m → st s = 0 → post (nI s) (nI n, nI c, nI m, vX, IV, U, CT, NB, SV, upd ST s 1, upd SD s (nI p), upd RC s (nI q), upd PL s (vX p), upd SI s (nI (iv p)), RI, LN, ND, SE)) : wpX_send post (nI n, nI c, nI m, vX, IV, U, CT, NB, SV, ST, SD, RC, PL, SI, RI, LN, ND, SE) (nI p) (nI q) := by
  have hA' := hA
  obtain ⟨hW, hIV, hCT, hNB, hST, hSD, hRC, hSI, hRI⟩ := hA'
  have hW' := hW
  obtain ⟨⟨⟨n2, n4⟩, ⟨c3h, c8⟩, ⟨m4, m16⟩⟩, hS, hM, hB⟩ := hW'
  simp only [wpX_send]
  refine rx_bad hp n4 ?_
  refine br_t rfl ?_
  refine rx_bad hq n4 ?_
  refine br_t rfl ?_
  have e' : ¬ nI p = nI q := fun z => hpq ((nI_eq (by omega) (by omega)).mp z)
  have hcl : (nI p).toNatClampNeg = p := nI_clamp (by omega)
  have hin : vp_in (nI p) 4 := vp_in_nI (by omega) (by omega)
  refine br_f e' ⟨hin, ?_⟩
  by_cases a : U p = 0
  · exact br_t (by rw [hcl]; exact a) (h0 a)
  · refine br_f (by rw [hcl]; exact a) ?_
    refine rx_empty m16 hST (fun s => (hM.1 s).1) (fun s hs he hne => ?_) (fun hne => ?_)
    · have hne4 := rl_ne4 (a := s) (by omega)
      simp (disch := omega) only [hne4, hIV, forall_eq, Nat.le_refl, rl_10, rl_n10, nI_leI, nI_ltI, nI_eq, vp_in_nI, nI_clamp, nI_1, nI_add, rl_lt0, rl_0le, rl_eq0, rl_eq1, rl_eq2, rl_m1, rl_m8, rl_m100, rl_vb0, rl_vb1, true_implies, forall_const, not_true_eq_false, not_false_eq_true, false_implies, and_true, true_and, implies_true, and_self]
      exact h2 s hs he
    · exact br_t rfl h1
theorem rx_msg0 {post : Int32 → Prop} {e : Nat} (he : e < m) (m16 : m ≤ 16) (hST : ST e = nI (st e)) (h : post (nI (st e))) : wpX_message post (nI n, nI c, nI m, vX, IV, U, CT, NB, SV, ST, SD, RC, PL, SI, RI, LN, ND, SE) (nI e) 0 := by
  have f0 : ¬ (0 : Int32) < 0 := by decide
  have f1 : (0 : Int32) ≤ 5 := by decide
  simp only [wpX_message]
  refine rx_badS he m16 ?_
  simp (disch := omega) only [f0, f1, hST, forall_eq, Nat.le_refl, rl_10, rl_n10, nI_leI, nI_ltI, nI_eq, vp_in_nI, nI_clamp, nI_1, nI_add, rl_lt0, rl_0le, rl_eq0, rl_eq1, rl_eq2, rl_m1, rl_m8, rl_m100, rl_vb0, rl_vb1, true_implies, forall_const, not_true_eq_false, not_false_eq_true, false_implies, and_true, true_and, implies_true, and_self]
  exact h
theorem rx_intv {post : Int32 → Prop} {p : Nat} (hp : p < n) (n4 : n ≤ 4) (hIV : IV p = nI (iv p)) (h : post (nI (iv p))) : wpX_interval post (nI n, nI c, nI m, vX, IV, U, CT, NB, SV, ST, SD, RC, PL, SI, RI, LN, ND, SE) (nI p) := by
  simp only [wpX_interval]
  refine rx_bad hp n4 ?_
  simp (disch := omega) only [hIV, forall_eq, Nat.le_refl, rl_10, rl_n10, nI_leI, nI_ltI, nI_eq, vp_in_nI, nI_clamp, nI_1, nI_add, rl_lt0, rl_0le, rl_eq0, rl_eq1, rl_eq2, rl_m1, rl_m8, rl_m100, rl_vb0, rl_vb1, true_implies, forall_const, not_true_eq_false, not_false_eq_true, false_implies, and_true, true_and, implies_true, and_self]
  exact h
theorem rx_isUp {post : Int32 → Prop} {p : Nat} (hp : p < n) (n4 : n ≤ 4) (h0 : U p = 0 → post 0) (h1 : ¬ U p = 0 → post 1) : wpX_isUp post (nI n, nI c, nI m, vX, IV, U, CT, NB, SV, ST, SD, RC, PL, SI, RI, LN, ND, SE) (nI p) := by
  simp only [wpX_isUp]
  refine rx_bad hp n4 ?_
  by_cases a : U p = 0
  · simp (disch := omega) only [a, forall_eq, Nat.le_refl, rl_10, rl_n10, nI_leI, nI_ltI, nI_eq, vp_in_nI, nI_clamp, nI_1, nI_add, rl_lt0, rl_0le, rl_eq0, rl_eq1, rl_eq2, rl_m1, rl_m8, rl_m100, rl_vb0, rl_vb1, true_implies, forall_const, not_true_eq_false, not_false_eq_true, false_implies, and_true, true_and, implies_true, and_self]
    exact h0 a
  · simp (disch := omega) only [a, forall_eq, Nat.le_refl, rl_10, rl_n10, nI_leI, nI_ltI, nI_eq, vp_in_nI, nI_clamp, nI_1, nI_add, rl_lt0, rl_0le, rl_eq0, rl_eq1, rl_eq2, rl_m1, rl_m8, rl_m100, rl_vb0, rl_vb1, true_implies, forall_const, not_true_eq_false, not_false_eq_true, false_implies, and_true, true_and, implies_true, and_self]
    exact h1 a
theorem rx_probe (hA : rl_A n c m iv ct g st sd rc si ri IV CT NB ST SD RC SI RI) {post : Int32 → St2 → Prop} {p : Nat} {x : Int32} {L : Nat → Nat} (hp : p < n) (hL : rl_IsL n (rl_tp ct (rl_or (rl_dn U) n ||| x)) (rl_C m iv ct g st sd rc si ri) L)
    (h0 : L p < ct p → ∀ LN', post (nI (g p (L p))) (nI n, nI c, nI m, vX, IV, U, CT, NB, SV, ST, SD, RC, PL, SI, RI, LN', ND, SE)) (h1 : ¬ L p < ct p → ∀ LN', post 1000 (nI n, nI c, nI m, vX, IV, U, CT, NB, SV, ST, SD, RC, PL, SI, RI, LN', ND, SE)) : wpX_probe post (nI n, nI c, nI m, vX, IV, U, CT, NB, SV, ST, SD, RC, PL, SI, RI, LN, ND, SE) x (nI p) := by
  have hA' := hA
  obtain ⟨hW, hIV, hCT, hNB, hST, hSD, hRC, hSI, hRI⟩ := hA'
  have hW' := hW
  obtain ⟨⟨⟨n2, n4⟩, ⟨c3h, c8⟩, ⟨m4, m16⟩⟩, hS, hM, hB⟩ := hW'
  obtain ⟨s1, s2, s3, s4, s5⟩ := hS p hp
  have hG := rl_G_100 hS (L p) hp
  simp only [wpX_probe]
  refine rx_bad hp n4 ?_
  refine br_t rfl ?_
  refine rx_down n4 ?_
  try dsimp only
  refine rx_find hA hL (fun LN1 r1 => ?_)
  try dsimp only
  have h10 : ¬ (1 : Int32) = 0 := by decide
  refine rx_isNow (v := iv p) (y := rl_G ct g iv p (L p)) (by omega) (by omega) (by omega) (hIV p) (r1 p hp) (fun a => ?_) (fun a => ?_)
  · have hc : ¬ L p < ct p := by
      intro z
      rw [rl_G_in z] at a
      have := s4 _ z
      omega
    exact br_f h10 (h1 hc LN1)
  · have hc : L p < ct p := by
      by_cases z : L p < ct p
      · exact z
      · rw [rl_G_now z] at a; omega
    have hln := r1 p hp
    rw [rl_G_in hc] at hln
    simp (disch := omega) only [hln, forall_eq, Nat.le_refl, rl_10, rl_n10, nI_leI, nI_ltI, nI_eq, vp_in_nI, nI_clamp, nI_1, nI_add, rl_lt0, rl_0le, rl_eq0, rl_eq1, rl_eq2, rl_m1, rl_m8, rl_m100, rl_vb0, rl_vb1, true_implies, forall_const, not_true_eq_false, not_false_eq_true, false_implies, and_true, true_and, implies_true, and_self]
    exact h0 hc LN1
theorem rx_needed (hA : rl_A n c m iv ct g st sd rc si ri IV CT NB ST SD RC SI RI) {post : Int32 → St2 → Prop} {p k : Nat} (hp : p < n) (hk : k < ct p) {Ls : Int32 → Nat → Nat} (hL : ∀ T, rl_IsL n (rl_tp ct T) (rl_C m iv ct g st sd rc si ri) (Ls T))
    (hN : rl_Nd (rl_or (rl_dn U) n) Ls (2 ^ n) p k) (h : ∀ LN' ND' SE', post 1 (nI n, nI c, nI m, vX, IV, U, CT, NB, SV, ST, SD, RC, PL, SI, RI, LN', ND', SE')) : wpX_needed post (nI n, nI c, nI m, vX, IV, U, CT, NB, SV, ST, SD, RC, PL, SI, RI, LN, ND, SE) (nI p) (nI (g p k)) := by
  have hA' := hA
  obtain ⟨hW, hIV, hCT, hNB, hST, hSD, hRC, hSI, hRI⟩ := hA'
  have hW' := hW
  obtain ⟨⟨⟨n2, n4⟩, ⟨c3h, c8⟩, ⟨m4, m16⟩⟩, hS, hM, hB⟩ := hW'
  obtain ⟨s1, s2, s3, s4, s5⟩ := hS p hp
  simp only [wpX_needed]
  refine rx_bad hp n4 ?_
  refine br_t rfl ?_
  refine rx_cellOf (K := ct p) (gp := g p) (by omega) (by omega) (hCT p) (hNB p hp) (fun j hj ej => ?_) (fun hn => absurd rfl (hn k hk))
  have g1 := s4 j hj
  have g2 := s4 k hk
  have ej2 : g p j = g p k := (nI_eq (by omega) (by omega)).mp ej
  have ejk : j = k := by
    rcases Nat.lt_trichotomy j k with z | z | z
    · have := s3 _ _ z hk; omega
    · exact z
    · have := s3 _ _ z hj; omega
  have hne4 := rl_ne4 (a := p * 8 + j) (by omega)
  refine br_f hne4 ?_
  refine rx_mns hA hL (fun LN1 ND1 SE1 r1 r2 => ?_)
  have hr := r1 p hp k hk
  have a : ¬ ND1 (p * 8 + k) = 0 := hr.mpr hN
  rw [ejk]
  simp (disch := omega) only [a, forall_eq, Nat.le_refl, rl_10, rl_n10, nI_leI, nI_ltI, nI_eq, vp_in_nI, nI_clamp, nI_1, nI_add, rl_lt0, rl_0le, rl_eq0, rl_eq1, rl_eq2, rl_m1, rl_m8, rl_m100, rl_vb0, rl_vb1, true_implies, forall_const, not_true_eq_false, not_false_eq_true, false_implies, and_true, true_and, implies_true, and_self]
  exact h LN1 ND1 SE1
end
end
section
theorem bq_or (f : Nat → Bool) {p : Nat} (hp : p < 32) : ∀ i, i ≤ 32 → bt (rl_or f i) p = (decide (p < i) && f p) := by
  intro i
  induction i with
  | zero => intro _; show bt 0 p = _; rw [b_0]; simp
  | succ i ih =>
    intro hi
    have h := ih (by omega)
    by_cases a : f i = true
    · rw [rl_or_t a, b_or, h, bq_shl1 (by omega) hp]
      by_cases e : p = i
      · simp [e, a]
      · by_cases l : p < i
        · have : p < i + 1 := by omega
          simp [e, l, this]
        · have : ¬ p < i + 1 := by omega
          simp [e, l, this]
    · rw [rl_or_f a, h]
      by_cases e : p = i
      · rw [e]; simp [a]
      · by_cases l : p < i
        · have : p < i + 1 := by omega
          simp [l, this]
        · have : ¬ p < i + 1 := by omega
          simp [l, this]
theorem rl_orN (f : Nat → Bool) {n : Nat} (h2 : 2 ≤ n) (h4 : n ≤ 4) : ∃ j, j < 2 ^ n ∧ rl_or f n = nI j := by
  have : n = 2 ∨ n = 3 ∨ n = 4 := by omega
  rcases this with e | e | e <;> subst e
  · refine ⟨_, ?_, (rl_o2 f).1⟩
    cases f 0 <;> cases f 1 <;> decide
  · refine ⟨_, ?_, (rl_o3 f).1⟩
    cases f 0 <;> cases f 1 <;> cases f 2 <;> decide
  · refine ⟨_, ?_, (rl_o4 f).1⟩
    cases f 0 <;> cases f 1 <;> cases f 2 <;> cases f 3 <;> decide
def rq_R (n c m : Nat) (iv ct : Nat → Nat) (g : Nat → Nat → Nat) (st sd rc si ri : Nat → Nat) (H : Nat → Nat → Nat → Nat) (zI zS zW zN zR a1 a2 a3 b0 b2 b3 c0 c1 c3 d0 d1 d2 : Int64) (dn : Int32) (IV U CT NB ST SD RC SI RI : Nat → Int32) : Prop :=
  rl_A n c m iv ct g st sd rc si ri IV CT NB ST SD RC SI RI ∧ rq_I n m iv ct g st sd rc si ri (rl_dn U) H ∧ rq_Hs H a1 a2 a3 b0 b2 b3 c0 c1 c3 d0 d1 d2 ∧
  (∀ p, p < 4 → nk_v zI p = if p < n then iv p else 0) ∧ (∀ e, e < m → nk_v zS e = st e) ∧ (∀ e, e < m → ¬ st e = 0 → nk_v zW e = sd e + 4 * rc e ∧ nk_v zN e = si e) ∧
  (∀ e, e < m → st e = 2 → nk_v zR e = ri e) ∧ (∀ p, p < n → bt dn p = rl_dn U p)
theorem lq_cell {post : Int32 → Prop} {L : Nat} {xs : Nat → Int32} {u : St0} {j : Nat} (hL : L < 2 ^ 31) (hj : j < 2 ^ 31) (h : ∀ r, post r) : wpL_cell post L xs u (nI j) := by
  refine br_c (fun _ => h 0) (fun z => ⟨?_, h _⟩)
  have z' : ¬ nI L ≤ nI j := z
  rw [nI_leI hL hj] at z'
  exact vp_in_nI (by omega) hL
section
variable {n c m : Nat} {iv ct st sd rc si ri : Nat → Nat} {g : Nat → Nat → Nat}
variable {vX IV U CT NB SV ST SD RC PL SI RI LN ND SE : Nat → Int32}
variable {post : Int32 → Prop} {L kc ks kk : Nat} {xs : Nat → Int32} {x1 dn : Int32} {zI zS zW zN zR a1 a2 a3 b0 b2 b3 c0 c1 c3 d0 d1 d2 : Int64} {H : Nat → Nat → Nat → Nat}
theorem rq_R_top (hR : rq_R n c m iv ct g st sd rc si ri H zI zS zW zN zR a1 a2 a3 b0 b2 b3 c0 c1 c3 d0 d1 d2 dn IV U CT NB ST SD RC SI RI) (t : Int32) {x : Int64} (hx : ∀ p, p < 4 → nk_v x p = if p < n ∧ bt t p = false then nk_v zI p + 1 else nk_v zI p) : ∀ p, p < 4 → nk_v x p = rq_top n iv (fun p => bt t p) p := by
  intro p hp
  rw [hx p hp, hR.2.2.2.1 p hp]
  by_cases a : p < n
  · rw [if_pos a]
    by_cases b : bt t p = true
    · rw [if_neg (fun z => by rw [z.2] at b; exact absurd b (by decide)), rq_top_t a b]
    · have b' : bt t p = false := by
        cases h : bt t p
        · rfl
        · exact absurd h b
      rw [if_pos ⟨a, b'⟩, rq_top_f a b]
  · rw [if_neg (fun z => a z.1), if_neg a, rq_top_o a]
theorem rq_R_14 (hR : rq_R n c m iv ct g st sd rc si ri H zI zS zW zN zR a1 a2 a3 b0 b2 b3 c0 c1 c3 d0 d1 d2 dn IV U CT NB ST SD RC SI RI) : ∀ p, p < n → nk_v zI p ≤ 14 := by
  intro p hp
  have n4 := hR.1.1.1.1.2
  rw [hR.2.2.2.1 p (by omega), if_pos hp]
  exact hR.2.1.1 p hp
/-- one answer of probe, and of needed -/
theorem lq_1528 (hR : rq_R n c m iv ct g st sd rc si ri H zI zS zW zN zR a1 a2 a3 b0 b2 b3 c0 c1 c3 d0 d1 d2 dn IV U CT NB ST SD RC SI RI) {J : Int64 → Int64 → Int64 → Int64 → Int64 → Int64 → Int64 → Int64 → Int64 → Int64 → Int64 → Int64 → Int64 → Int64 → Int64 → Int64 → Int64 → Int32 → Int32 → Int32 → Int32 → Int32 → (Nat → Int32) → (Nat → Int32) → (Nat → Int32) → (Nat → Int32) → (Nat → Int32) → (Nat → Int32) → (Nat → Int32) → (Nat → Int32) → (Nat → Int32) → (Nat → Int32) → (Nat → Int32) → (Nat → Int32) → (Nat → Int32) → (Nat → Int32) → (Nat → Int32) → Prop} {J1426 J1492 : Int32 → Int32 → Int32 → Int32 → (Nat → Int32) → (Nat → Int32) → (Nat → Int32) → (Nat → Int32) → (Nat → Int32) → (Nat → Int32) → (Nat → Int32) → (Nat → Int32) → (Nat → Int32) → (Nat → Int32) → (Nat → Int32) → (Nat → Int32) → (Nat → Int32) → (Nat → Int32) → (Nat → Int32) → Prop} {z : Int64} {mk p : Nat} {r z0 : Int32} {M : Nat → Nat} (hp : p < n) (hmk : mk < 2 ^ n)
    (hMM : rl_IsL 4 (rq_top n iv (fun p => bt (dn ||| nI mk) p)) (rq_C H) M) (hz0 : z0 = if M p ≤ iv p then nI (M p) else 1000)
    (hnext : ∀ LN ND SE, J1492 (nI p + 1) (nI n) (nI c) (nI m) vX IV U CT NB SV ST SD RC PL SI RI LN ND SE) : wL_law_1528 post L xs J J1426 J1492 x1 (nI n) (nI m) zI zS zW zN zR a1 a2 a3 b0 b2 b3 c0 c1 c3 d0 d1 d2 dn (nI kk) (nI mk) z (nI mk ||| (r <<< (nI n &&& 31))) (nI p) z0 kc ks (nI n) (nI c) (nI m) vX IV U CT NB SV ST SD RC PL SI RI LN ND SE := by
  obtain ⟨hA, hI, hH, hzI, hzS, hzW, hzR, hdn⟩ := hR
  have hA' := hA
  obtain ⟨hW, hIV, hCT, hNB, hST, hSD, hRC, hSI, hRI⟩ := hA'
  have hW' := hW
  obtain ⟨⟨⟨n2, n4⟩, ⟨c3h, c8⟩, ⟨m4, m16⟩⟩, hS, hM, hB⟩ := hW'
  obtain ⟨s1, s2, s3, s4, s5⟩ := hS p hp
  have h16 := rl_16 n4
  have hbit : ∀ q, q < n → bt (rl_or (rl_dn U) n ||| (nI mk ||| (r <<< (nI n &&& 31)))) q = bt (dn ||| nI mk) q := by
    intro q hq
    have l1 : ¬ n ≤ q := by omega
    rw [b_or, b_or, b_or, bq_or _ (by omega) n (by omega), b_shl n (by omega) r (by omega), hdn q hq]
    simp [hq, l1]
  obtain ⟨Lx, hLx⟩ := rl_exL hW (rl_or (rl_dn U) n ||| (nI mk ||| (r <<< (nI n &&& 31))))
  have hTX : ∀ q, q < n → ((fun p => bt (dn ||| nI mk) p) q = true ↔ ¬ ((rl_or (rl_dn U) n ||| (nI mk ||| (r <<< (nI n &&& 31)))) &&& ((1 : Int32) <<< (nI q &&& 31))) = 0) := by
    intro q hq
    rw [bq_shl _ (by omega), hbit q hq]
    show bt (dn ||| nI mk) q = true ↔ ¬ bt (dn ||| nI mk) q = false
    cases bt (dn ||| nI mk) q <;> decide
  have hD : ∀ q, q < n → rl_dn U q = true → (fun p => bt (dn ||| nI mk) p) q = true := by
    intro q hq h
    show bt (dn ||| nI mk) q = true
    rw [b_or, hdn q hq, h]; rfl
  have hEq := rq_eq hW hI hD hTX hMM hLx p hp
  have h14 := hI.1 p hp
  unfold wL_law_1528
  refine rx_probe hA hp hLx (fun a LN1 => ?_) (fun a LN1 => ?_)
  · rw [rl_G_in a] at hEq
    have hg := s4 _ a
    have hle : M p ≤ iv p := by omega
    rw [if_pos hle] at hz0
    have hne : ¬ nI (M p) = 1000 := fun w => absurd ((nI_eq (b := 1000) (by omega) (by decide)).mp w) (by omega)
    refine br_t (by rw [hz0, hEq]) ?_
    by_cases b : mk = 0
    · refine br_t (by rw [b]; rfl) ?_
      refine br_f (by rw [hz0]; exact hne) ?_
      obtain ⟨Ls, hLs⟩ := Classical.axiomOfChoice (rl_exL hW)
      obtain ⟨j, hj, ej⟩ := rl_orN (rl_dn U) n2 n4
      rw [hz0, hEq]
      refine rx_needed hA hp a hLs ⟨j, hj, ?_, ?_⟩ (fun LN2 ND2 SE2 => ?_)
      · rw [ej]
        refine b_ext (fun i _ => ?_)
        rw [b_and, Bool.and_self]
      · have hb0 : ∀ q, q < n → rl_tp ct (nI j) q = rl_tp ct (rl_or (rl_dn U) n ||| (nI mk ||| (r <<< (nI n &&& 31)))) q := by
          intro q hq
          have l1 : bt (nI j) q = bt (rl_or (rl_dn U) n ||| (nI mk ||| (r <<< (nI n &&& 31)))) q := by
            rw [hbit q hq, ← ej, bq_or _ (by omega) n (by omega), b_or, hdn q hq, b]
            have : bt (nI 0) q = false := b_0 q
            rw [this]
            simp [hq]
          unfold rl_tp
          by_cases w : bt (nI j) q = false
          · rw [if_pos ((bq_shl _ (by omega)).mpr w), if_pos ((bq_shl _ (by omega)).mpr (by rw [← l1]; exact w))]
          · rw [if_neg (fun y => w ((bq_shl _ (by omega)).mp y)), if_neg (fun y => w (by rw [l1]; exact (bq_shl _ (by omega)).mp y))]
        have hA1 := hLs (nI j)
        have u1 := hLx.2.2 (Ls (nI j)) (fun q hq => by rw [← hb0 q hq]; exact hA1.1 q hq) hA1.2.1 p hp
        have u2 := hA1.2.2 Lx (fun q hq => by rw [hb0 q hq]; exact hLx.1 q hq) hLx.2.1 p hp
        omega
      · exact br_t rfl (nm_e (hnext LN2 ND2 SE2))
    · refine br_f (fun w => b ((rl_eq0 (by omega)).mp w)) ?_
      exact nm_e (hnext LN1 ND SE)
  · rw [rl_G_now a] at hEq
    rw [if_neg (by omega)] at hz0
    refine br_t (by rw [hz0]) ?_
    by_cases b : mk = 0
    · refine br_t (by rw [b]; rfl) ?_
      exact br_t hz0 (nm_e (hnext LN1 ND SE))
    · refine br_f (fun w => b ((rl_eq0 (by omega)).mp w)) ?_
      exact nm_e (hnext LN1 ND SE)
theorem lq_1492 (hR : rq_R n c m iv ct g st sd rc si ri H zI zS zW zN zR a1 a2 a3 b0 b2 b3 c0 c1 c3 d0 d1 d2 dn IV U CT NB ST SD RC SI RI) {J : Int64 → Int64 → Int64 → Int64 → Int64 → Int64 → Int64 → Int64 → Int64 → Int64 → Int64 → Int64 → Int64 → Int64 → Int64 → Int64 → Int64 → Int32 → Int32 → Int32 → Int32 → Int32 → (Nat → Int32) → (Nat → Int32) → (Nat → Int32) → (Nat → Int32) → (Nat → Int32) → (Nat → Int32) → (Nat → Int32) → (Nat → Int32) → (Nat → Int32) → (Nat → Int32) → (Nat → Int32) → (Nat → Int32) → (Nat → Int32) → (Nat → Int32) → (Nat → Int32) → Prop} {J1426 : Int32 → Int32 → Int32 → Int32 → (Nat → Int32) → (Nat → Int32) → (Nat → Int32) → (Nat → Int32) → (Nat → Int32) → (Nat → Int32) → (Nat → Int32) → (Nat → Int32) → (Nat → Int32) → (Nat → Int32) → (Nat → Int32) → (Nat → Int32) → (Nat → Int32) → (Nat → Int32) → (Nat → Int32) → Prop} {z : Int64} {mk : Nat} {r : Int32} {M : Nat → Nat} (hmk : mk < 2 ^ n)
    (hM : rl_IsL 4 (rq_top n iv (fun p => bt (dn ||| nI mk) p)) (rq_C H) M) (hz : ∀ p, p < 4 → nk_v z p = M p) (hnext : ∀ LN ND SE, J1426 (nI mk + 1) (nI n) (nI c) (nI m) vX IV U CT NB SV ST SD RC PL SI RI LN ND SE) :
    ∀ (fu i : Nat) (LN ND SE : Nat → Int32), n < fu + i → i ≤ n → wL_law_1492 post L xs J J1426 x1 (nI n) (nI m) zI zS zW zN zR a1 a2 a3 b0 b2 b3 c0 c1 c3 d0 d1 d2 dn (nI kk) (nI mk) z (nI mk ||| (r <<< (nI n &&& 31))) kc ks fu (nI i) (nI n) (nI c) (nI m) vX IV U CT NB SV ST SD RC PL SI RI LN ND SE := by
  have n4 := hR.1.1.1.1.2
  have h14 := rq_R_14 hR
  intro fu
  induction fu with
  | zero => intro i LN ND SE q1 q2; omega
  | succ fu ih =>
    intro i LN ND SE q1 q2
    by_cases e : n ≤ i
    · have e' : nI n ≤ nI i := nI_le e (by omega)
      rw [wL_law_1492]
      exact br_t e' (nm_e (hnext LN ND SE))
    · have e' : ¬ nI n ≤ nI i := nI_ge (by omega) (by omega)
      have hzi := hz i (by omega)
      have hIi := hR.2.2.2.1 i (by omega)
      rw [if_pos (by omega)] at hIi
      have hl := nk_lt z i
      have hl2 := nk_lt zI i
      have nx : ∀ LN ND SE, wL_law_1492 post L xs J J1426 x1 (nI n) (nI m) zI zS zW zN zR a1 a2 a3 b0 b2 b3 c0 c1 c3 d0 d1 d2 dn (nI kk) (nI mk) z (nI mk ||| (r <<< (nI n &&& 31))) kc ks fu (nI i + 1) (nI n) (nI c) (nI m) vX IV U CT NB SV ST SD RC PL SI RI LN ND SE := by
        intro LN ND SE
        rw [nI_1]
        exact ih (i + 1) LN ND SE (by omega) (by omega)
      rw [wL_law_1492]
      refine br_f e' ?_
      refine wl_nib (by omega) ?_
      refine wl_nib (by omega) ?_
      rw [hzi, hIi]
      by_cases l : M i ≤ iv i
      · refine br_t (nI_le l (by omega)) ?_
        refine wl_nib (by omega) ?_
        rw [hzi]
        exact lq_1528 hR (by omega) hmk hM (by rw [if_pos l]) nx
      · refine br_f (nI_ge (by omega) (by omega)) ?_
        exact lq_1528 hR (by omega) hmk hM (by rw [if_neg l]) nx
theorem lq_1426 (hR : rq_R n c m iv ct g st sd rc si ri H zI zS zW zN zR a1 a2 a3 b0 b2 b3 c0 c1 c3 d0 d1 d2 dn IV U CT NB ST SD RC SI RI) {J : Int64 → Int64 → Int64 → Int64 → Int64 → Int64 → Int64 → Int64 → Int64 → Int64 → Int64 → Int64 → Int64 → Int64 → Int64 → Int64 → Int64 → Int32 → Int32 → Int32 → Int32 → Int32 → (Nat → Int32) → (Nat → Int32) → (Nat → Int32) → (Nat → Int32) → (Nat → Int32) → (Nat → Int32) → (Nat → Int32) → (Nat → Int32) → (Nat → Int32) → (Nat → Int32) → (Nat → Int32) → (Nat → Int32) → (Nat → Int32) → (Nat → Int32) → (Nat → Int32) → Prop} (hL : L ≤ 260) (hkk : kk ≤ 1000) (hJ : ∀ LN ND SE, J zI zS zW zN zR a1 a2 a3 b0 b2 b3 c0 c1 c3 d0 d1 d2 dn (nI kk + 2) (nI n) (nI c) (nI m) vX IV U CT NB SV ST SD RC PL SI RI LN ND SE) :
    ∀ (fu mk : Nat) (LN ND SE : Nat → Int32), 2 ^ n < fu + mk → mk ≤ 2 ^ n → wL_law_1426 post L xs J x1 (nI n) (nI m) zI zS zW zN zR a1 a2 a3 b0 b2 b3 c0 c1 c3 d0 d1 d2 dn (nI kk) kc ks fu (nI mk) (nI n) (nI c) (nI m) vX IV U CT NB SV ST SD RC PL SI RI LN ND SE := by
  have n4 := hR.1.1.1.1.2
  have n2 := hR.1.1.1.1.1
  have h16 := rl_16 n4
  have h14 := rq_R_14 hR
  intro fu
  induction fu with
  | zero => intro mk LN ND SE q1 q2; omega
  | succ fu ih =>
    intro mk LN ND SE q1 q2
    by_cases e : 2 ^ n ≤ mk
    · have e' : (1 : Int32) <<< (nI n &&& 31) ≤ nI mk := by rw [rl_1n n2 n4]; exact nI_le e (by omega)
      rw [wL_law_1426]
      exact br_t e' (nm_e (hJ LN ND SE))
    · have e' : ¬ (1 : Int32) <<< (nI n &&& 31) ≤ nI mk := by rw [rl_1n n2 n4]; exact nI_ge (by omega) (by omega)
      rw [wL_law_1426]
      refine br_f e' ?_
      refine wl_top n4 h14 (fun x hx => ?_)
      obtain ⟨M, hM⟩ := rq_ex n iv (fun p => bt (dn ||| nI mk) p) H
      refine wl_line hM hR.2.2.1 (rq_R_top hR _ hx) (fun z hz => ?_)
      rw [nI_1]
      refine lq_cell (by omega) (by omega) (fun r => ?_)
      refine nm_e ?_
      refine ⟨n + 1, lq_1492 hR (by omega) hM hz (fun LN1 ND1 SE1 => ?_) (n + 1) 0 LN ND SE (by omega) (by omega)⟩
      rw [nI_1]
      exact ih (mk + 1) LN1 ND1 SE1 (by omega) (by omega)
theorem lq_1367 (hR : rq_R n c m iv ct g st sd rc si ri H zI zS zW zN zR a1 a2 a3 b0 b2 b3 c0 c1 c3 d0 d1 d2 dn IV U CT NB ST SD RC SI RI) {J : Int64 → Int64 → Int64 → Int64 → Int64 → Int64 → Int64 → Int64 → Int64 → Int64 → Int64 → Int64 → Int64 → Int64 → Int64 → Int64 → Int64 → Int32 → Int32 → Int32 → Int32 → Int32 → (Nat → Int32) → (Nat → Int32) → (Nat → Int32) → (Nat → Int32) → (Nat → Int32) → (Nat → Int32) → (Nat → Int32) → (Nat → Int32) → (Nat → Int32) → (Nat → Int32) → (Nat → Int32) → (Nat → Int32) → (Nat → Int32) → (Nat → Int32) → (Nat → Int32) → Prop} (hL : L ≤ 260) (hkk : kk ≤ 1000) (hJ : ∀ LN ND SE, J zI zS zW zN zR a1 a2 a3 b0 b2 b3 c0 c1 c3 d0 d1 d2 dn (nI kk + 2) (nI n) (nI c) (nI m) vX IV U CT NB SV ST SD RC PL SI RI LN ND SE) :
    ∀ (fu p : Nat), n < fu + p → p ≤ n → wL_law_1367 post L xs J x1 (nI n) (nI m) zI zS zW zN zR a1 a2 a3 b0 b2 b3 c0 c1 c3 d0 d1 d2 dn (nI kk) kc ks (nI n) (nI c) (nI m) vX IV U CT NB SV ST SD RC PL SI RI LN ND SE fu (nI p) := by
  have n4 := hR.1.1.1.1.2
  intro fu
  induction fu with
  | zero => intro p q1 q2; omega
  | succ fu ih =>
    intro p q1 q2
    by_cases e : n ≤ p
    · rw [wL_law_1367]
      refine br_t (nI_le e (by omega)) ?_
      exact ⟨2 ^ n + 1, lq_1426 hR hL hkk hJ (2 ^ n + 1) 0 LN ND SE (by omega) (Nat.zero_le _)⟩
    · have hIi := hR.2.2.2.1 p (by omega)
      rw [if_pos (by omega)] at hIi
      have hdn := hR.2.2.2.2.2.2.2 p (by omega)
      have nx : wL_law_1367 post L xs J x1 (nI n) (nI m) zI zS zW zN zR a1 a2 a3 b0 b2 b3 c0 c1 c3 d0 d1 d2 dn (nI kk) kc ks (nI n) (nI c) (nI m) vX IV U CT NB SV ST SD RC PL SI RI LN ND SE fu (nI p + 1) := by
        rw [nI_1]; exact ih (p + 1) (by omega) (by omega)
      rw [wL_law_1367]
      refine br_f (nI_ge (by omega) (by omega)) ?_
      refine rx_intv (iv := iv) (by omega) n4 (hR.1.2.1 p) ?_
      refine wl_nib (by omega) ?_
      rw [hIi]
      refine br_t rfl ?_
      refine rx_isUp (by omega) n4 (fun a => ?_) (fun a => ?_)
      · have hb : ¬ ((dn >>> (nI p &&& 31)) &&& 1) = 0 := by
          rw [bq_shr dn (by omega), hdn]
          intro z
          have : rl_dn U p = true := decide_eq_true a
          rw [this] at z
          exact absurd z (by decide)
        refine br_f hb ?_
        exact br_t rfl (nm_e nx)
      · have hb : ((dn >>> (nI p &&& 31)) &&& 1) = 0 := by
          rw [bq_shr dn (by omega), hdn]
          exact decide_eq_false a
        refine br_t hb ?_
        exact br_t rfl (nm_e nx)
theorem lq_1332_l (hR : rq_R n c m iv ct g st sd rc si ri H zI zS zW zN zR a1 a2 a3 b0 b2 b3 c0 c1 c3 d0 d1 d2 dn IV U CT NB ST SD RC SI RI) {J : Int64 → Int64 → Int64 → Int64 → Int64 → Int64 → Int64 → Int64 → Int64 → Int64 → Int64 → Int64 → Int64 → Int64 → Int64 → Int64 → Int64 → Int32 → Int32 → Int32 → Int32 → Int32 → (Nat → Int32) → (Nat → Int32) → (Nat → Int32) → (Nat → Int32) → (Nat → Int32) → (Nat → Int32) → (Nat → Int32) → (Nat → Int32) → (Nat → Int32) → (Nat → Int32) → (Nat → Int32) → (Nat → Int32) → (Nat → Int32) → (Nat → Int32) → (Nat → Int32) → Prop} (hL : L ≤ 260) (hkk : kk ≤ 1000) (hJ : ∀ LN ND SE, J zI zS zW zN zR a1 a2 a3 b0 b2 b3 c0 c1 c3 d0 d1 d2 dn (nI kk + 2) (nI n) (nI c) (nI m) vX IV U CT NB SV ST SD RC PL SI RI LN ND SE) :
    ∀ (fu e : Nat), m < fu + e → e ≤ m → wL_law_1332 post L xs J x1 (nI n) (nI m) zI zS zW zN zR a1 a2 a3 b0 b2 b3 c0 c1 c3 d0 d1 d2 dn (nI kk) kc ks (nI n) (nI c) (nI m) vX IV U CT NB SV ST SD RC PL SI RI LN ND SE fu (nI e) := by
  have m16 := hR.1.1.1.2.2.2
  intro fu
  induction fu with
  | zero => intro e q1 q2; omega
  | succ fu ih =>
    intro e q1 q2
    by_cases a : m ≤ e
    · rw [wL_law_1332]
      refine br_t (nI_le a (by omega)) ?_
      exact ⟨n + 1, lq_1367 hR hL hkk hJ (n + 1) 0 (by omega) (by omega)⟩
    · have hs := hR.2.2.2.2.1 e (by omega)
      rw [wL_law_1332]
      refine br_f (nI_ge (by omega) (by omega)) ?_
      refine rx_msg0 (st := st) (by omega) m16 (hR.1.2.2.2.2.1 e) ?_
      refine wl_nib (by omega) ?_
      rw [hs]
      refine br_t rfl ?_
      refine nm_e ?_
      rw [nI_1]
      exact ih (e + 1) (by omega) (by omega)
theorem lq_chk (hR : rq_R n c m iv ct g st sd rc si ri H zI zS zW zN zR a1 a2 a3 b0 b2 b3 c0 c1 c3 d0 d1 d2 dn IV U CT NB ST SD RC SI RI) {J : Int64 → Int64 → Int64 → Int64 → Int64 → Int64 → Int64 → Int64 → Int64 → Int64 → Int64 → Int64 → Int64 → Int64 → Int64 → Int64 → Int64 → Int32 → Int32 → Int32 → Int32 → Int32 → (Nat → Int32) → (Nat → Int32) → (Nat → Int32) → (Nat → Int32) → (Nat → Int32) → (Nat → Int32) → (Nat → Int32) → (Nat → Int32) → (Nat → Int32) → (Nat → Int32) → (Nat → Int32) → (Nat → Int32) → (Nat → Int32) → (Nat → Int32) → (Nat → Int32) → Prop} (hL : L ≤ 260) (hkk : kk ≤ 1000) (hJ : ∀ LN ND SE, J zI zS zW zN zR a1 a2 a3 b0 b2 b3 c0 c1 c3 d0 d1 d2 dn (nI kk + 2) (nI n) (nI c) (nI m) vX IV U CT NB SV ST SD RC PL SI RI LN ND SE) : ∃ fu, wL_law_1332 post L xs J x1 (nI n) (nI m) zI zS zW zN zR a1 a2 a3 b0 b2 b3 c0 c1 c3 d0 d1 d2 dn (nI kk) kc ks (nI n) (nI c) (nI m) vX IV U CT NB SV ST SD RC PL SI RI LN ND SE fu 0 :=
  ⟨m + 1, lq_1332_l hR hL hkk hJ (m + 1) 0 (by omega) (by omega)⟩
end
end
section
def rq_J (n c m kk : Nat) (J : Int64 → Int64 → Int64 → Int64 → Int64 → Int64 → Int64 → Int64 → Int64 → Int64 → Int64 → Int64 → Int64 → Int64 → Int64 → Int64 → Int64 → Int32 → Int32 → Int32 → Int32 → Int32 → (Nat → Int32) → (Nat → Int32) → (Nat → Int32) → (Nat → Int32) → (Nat → Int32) → (Nat → Int32) → (Nat → Int32) → (Nat → Int32) → (Nat → Int32) → (Nat → Int32) → (Nat → Int32) → (Nat → Int32) → (Nat → Int32) → (Nat → Int32) → (Nat → Int32) → Prop) : Prop :=
  ∀ (iv ct : Nat → Nat) (g : Nat → Nat → Nat) (st sd rc si ri : Nat → Nat) (H : Nat → Nat → Nat → Nat) (zI zS zW zN zR a1 a2 a3 b0 b2 b3 c0 c1 c3 d0 d1 d2 : Int64) (dn : Int32)
    (vX IV U CT NB SV ST SD RC PL SI RI LN ND SE : Nat → Int32), rq_R n c m iv ct g st sd rc si ri H zI zS zW zN zR a1 a2 a3 b0 b2 b3 c0 c1 c3 d0 d1 d2 dn IV U CT NB ST SD RC SI RI → J zI zS zW zN zR a1 a2 a3 b0 b2 b3 c0 c1 c3 d0 d1 d2 dn (nI kk + 2) (nI n) (nI c) (nI m) vX IV U CT NB SV ST SD RC PL SI RI LN ND SE
section
variable {n c m : Nat} {iv ct st sd rc si ri : Nat → Nat} {g : Nat → Nat → Nat}
variable {vX IV U CT NB SV ST SD RC PL SI RI LN ND SE : Nat → Int32}
variable {post : Int32 → Prop} {L kc ks kk : Nat} {xs : Nat → Int32} {x1 dn : Int32} {zI zS zW zN zR a1 a2 a3 b0 b2 b3 c0 c1 c3 d0 d1 d2 : Int64} {H : Nat → Nat → Nat → Nat}
theorem lq_go {J : Int64 → Int64 → Int64 → Int64 → Int64 → Int64 → Int64 → Int64 → Int64 → Int64 → Int64 → Int64 → Int64 → Int64 → Int64 → Int64 → Int64 → Int32 → Int32 → Int32 → Int32 → Int32 → (Nat → Int32) → (Nat → Int32) → (Nat → Int32) → (Nat → Int32) → (Nat → Int32) → (Nat → Int32) → (Nat → Int32) → (Nat → Int32) → (Nat → Int32) → (Nat → Int32) → (Nat → Int32) → (Nat → Int32) → (Nat → Int32) → (Nat → Int32) → (Nat → Int32) → Prop} (hJ : rq_J n c m kk J) (hL : L ≤ 260) (hkk : kk ≤ 1000) (hR : rq_R n c m iv ct g st sd rc si ri H zI zS zW zN zR a1 a2 a3 b0 b2 b3 c0 c1 c3 d0 d1 d2 dn IV U CT NB ST SD RC SI RI) : ∃ fu, wL_law_1332 post L xs J x1 (nI n) (nI m) zI zS zW zN zR a1 a2 a3 b0 b2 b3 c0 c1 c3 d0 d1 d2 dn (nI kk) kc ks (nI n) (nI c) (nI m) vX IV U CT NB SV ST SD RC PL SI RI LN ND SE fu 0 :=
  lq_chk hR hL hkk (fun LN ND SE => hJ iv ct g st sd rc si ri H zI zS zW zN zR a1 a2 a3 b0 b2 b3 c0 c1 c3 d0 d1 d2 dn vX IV U CT NB SV ST SD RC PL SI RI LN ND SE hR)
theorem rq_A_check (hA : rl_A n c m iv ct g st sd rc si ri IV CT NB ST SD RC SI RI) {p : Nat} (hp : p < n) (h99 : iv p < 99) (hc : ct p < c) :
    rl_A n c m (rl_u iv p (iv p + 1)) (rl_u ct p (ct p + 1)) (rl_gC g p (ct p) (iv p + 1)) st sd rc si ri (upd IV p (nI (iv p + 1))) (upd CT p (nI (ct p + 1))) (upd NB (p * 8 + ct p) (nI (iv p + 1))) ST SD RC SI RI := by
  have hA' := hA
  obtain ⟨hW, hIV, hCT, hNB, hST, hSD, hRC, hSI, hRI⟩ := hA'
  have hW' := hW
  obtain ⟨⟨⟨n2, n4⟩, ⟨c3h, c8⟩, ⟨m4, m16⟩⟩, hS, hM, hB⟩ := hW'
  have hct : ∀ q, q < n → ct q ≤ 8 := fun q hq => Nat.le_trans (hS q hq).2.1 c8
  refine ⟨rl_W_check hW hp h99 hc, rl_uI hIV p _, rl_uI hCT p _, fun q hq k hk => ?_, hST, hSD, hRC, hSI, hRI⟩
  have hq8 := hct q hq
  by_cases e : q = p
  · rw [e] at hk hq8 ⊢
    rw [rl_us] at hk
    by_cases ek : k = ct p
    · rw [ek, pk_us, rl_gC_s]
    · rw [pk_un (by omega), rl_gC_n (fun z => ek z.2)]
      exact hNB p hp k (by omega)
  · rw [rl_un e] at hk
    rw [pk_un (by omega), rl_gC_n (fun z => e z.1)]
    exact hNB q hq k hk
theorem lq_230 {J : Int64 → Int64 → Int64 → Int64 → Int64 → Int64 → Int64 → Int64 → Int64 → Int64 → Int64 → Int64 → Int64 → Int64 → Int64 → Int64 → Int64 → Int32 → Int32 → Int32 → Int32 → Int32 → (Nat → Int32) → (Nat → Int32) → (Nat → Int32) → (Nat → Int32) → (Nat → Int32) → (Nat → Int32) → (Nat → Int32) → (Nat → Int32) → (Nat → Int32) → (Nat → Int32) → (Nat → Int32) → (Nat → Int32) → (Nat → Int32) → (Nat → Int32) → (Nat → Int32) → Prop} (hJ : rq_J n c m kk J) (hL : L ≤ 260) (hkk : kk ≤ 1000) (hR : rq_R n c m iv ct g st sd rc si ri H zI zS zW zN zR a1 a2 a3 b0 b2 b3 c0 c1 c3 d0 d1 d2 dn IV U CT NB ST SD RC SI RI) {p : Nat} (hp : p < n) : wL_law_230 post L xs J x1 (nI n) (nI m) zI zS zW zN zR a1 a2 a3 b0 b2 b3 c0 c1 c3 d0 d1 d2 dn (nI kk) (nI p) kc ks (nI n) (nI c) (nI m) vX IV U CT NB SV ST SD RC PL SI RI LN ND SE := by
  have hR' := hR
  obtain ⟨hA, hI, hH, hzI, hzS, hzW, hzR, hdn⟩ := hR'
  have hA' := hA
  obtain ⟨hW, hIV, hCT, hNB, hST, hSD, hRC, hSI, hRI⟩ := hA'
  have hW' := hW
  obtain ⟨⟨⟨n2, n4⟩, ⟨c3h, c8⟩, ⟨m4, m16⟩⟩, hS, hM, hB⟩ := hW'
  have hI14 := hI.1 p hp
  have hzp := hzI p (by omega)
  rw [if_pos hp] at hzp
  have hgo := lq_go (kc := kc) (ks := ks) (post := post) (xs := xs) (x1 := x1) (vX := vX) (SV := SV) (PL := PL) (LN := LN) (ND := ND) (SE := SE) hJ hL hkk hR
  unfold wL_law_230
  refine wl_nib (by omega) ?_
  rw [hzp]
  by_cases a : 14 ≤ iv p
  · exact br_t (nI_le (a := 14) a (by omega)) hgo
  · refine br_f (nI_ge (b := 14) (by omega) (by omega)) ?_
    refine rx_checkpoint hA hp (by omega) (fun _ => br_t (by decide) hgo) (fun _ => br_t (by decide) hgo) (fun u d => ?_)
    refine br_f (nI_pos (by omega)) ?_
    refine wl_nib (by omega) ?_
    rw [hzp]
    refine br_t (nI_1 _).symm ?_
    refine wl_set (by omega) (by omega) (fun z hz => ?_)
    refine lq_go hJ hL hkk (iv := rl_u iv p (iv p + 1)) (ct := rl_u ct p (ct p + 1)) (g := rl_gC g p (ct p) (iv p + 1)) (st := st) (sd := sd) (rc := rc) (si := si) (ri := ri) (H := H) ?_
    refine ⟨rq_A_check hA hp (by omega) d, rq_I_check n4 hI hp (fun w => u (of_decide_eq_true w)) (by omega), hH, fun q hq => ?_, hzS, hzW, hzR, hdn⟩
    rw [hz q (by omega)]
    by_cases e : q = p
    · rw [if_pos e, e, if_pos hp, rl_us]
    · rw [if_neg e, hzI q hq]
      by_cases w : q < n
      · rw [if_pos w, if_pos w, rl_un e]
      · rw [if_neg w, if_neg w]
theorem lq_306 {J : Int64 → Int64 → Int64 → Int64 → Int64 → Int64 → Int64 → Int64 → Int64 → Int64 → Int64 → Int64 → Int64 → Int64 → Int64 → Int64 → Int64 → Int32 → Int32 → Int32 → Int32 → Int32 → (Nat → Int32) → (Nat → Int32) → (Nat → Int32) → (Nat → Int32) → (Nat → Int32) → (Nat → Int32) → (Nat → Int32) → (Nat → Int32) → (Nat → Int32) → (Nat → Int32) → (Nat → Int32) → (Nat → Int32) → (Nat → Int32) → (Nat → Int32) → (Nat → Int32) → Prop} (hJ : rq_J n c m kk J) (hL : L ≤ 260) (hkk : kk ≤ 1000) (hR : rq_R n c m iv ct g st sd rc si ri H zI zS zW zN zR a1 a2 a3 b0 b2 b3 c0 c1 c3 d0 d1 d2 dn IV U CT NB ST SD RC SI RI) {p q : Nat} (hp : p < n) (hq : q < n) (hpq : p ≠ q) : wL_law_306 post L xs J x1 (nI n) (nI m) zI zS zW zN zR a1 a2 a3 b0 b2 b3 c0 c1 c3 d0 d1 d2 dn (nI kk) (nI p) (nI q) kc ks (nI n) (nI c) (nI m) vX IV U CT NB SV ST SD RC PL SI RI LN ND SE := by
  have hR' := hR
  obtain ⟨hA, hI, hH, hzI, hzS, hzW, hzR, hdn⟩ := hR'
  have hA' := hA
  obtain ⟨hW, hIV, hCT, hNB, hST, hSD, hRC, hSI, hRI⟩ := hA'
  have hW' := hW
  obtain ⟨⟨⟨n2, n4⟩, ⟨c3h, c8⟩, ⟨m4, m16⟩⟩, hS, hM, hB⟩ := hW'
  have hI14 := hI.1 p hp
  have hzp := hzI p (by omega)
  rw [if_pos hp] at hzp
  have hgo := lq_go (kc := kc) (ks := ks) (post := post) (xs := xs) (x1 := x1) (vX := vX) (SV := SV) (PL := PL) (LN := LN) (ND := ND) (SE := SE) hJ hL hkk hR
  unfold wL_law_306
  refine rx_send hA hp hq hpq (fun _ => br_t (by decide) hgo) (br_t (by decide) hgo) (fun s hs h0 => ?_)
  refine br_f (nI_pos (by omega)) ?_
  refine br_f (nI_ge hs (by omega)) ?_
  refine wl_nib (by omega) ?_
  rw [hzS s hs, h0]
  refine br_t rfl ?_
  refine wl_set (v := 1) (by omega) (by omega) (fun z1 h1 => ?_)
  have e4 : nI q <<< ((2 : Int32) &&& 31) = nI (q * 4) := pk_shlN _ 2 (by decide) (by omega)
  have e5 : p ||| q * 4 = q * 4 + p := by
    have := Nat.two_pow_add_eq_or_of_lt (i := 2) (show p < 2 ^ 2 by omega) q
    rw [Nat.or_comm, Nat.mul_comm q 4]
    exact this.symm
  rw [e4, nk_or32, e5]
  refine wl_set (by omega) (by omega) (fun z2 h2 => ?_)
  refine wl_nib (by omega) ?_
  rw [hzp]
  refine wl_set (by omega) (by omega) (fun z3 h3 => ?_)
  refine lq_go hJ hL hkk (iv := iv) (ct := ct) (g := g) (st := rl_u st s 1) (sd := rl_u sd s p) (rc := rl_u rc s q) (si := rl_u si s (iv p)) (ri := ri) (H := H) ?_
  refine ⟨⟨rl_W_send hW hp hq, hIV, hCT, hNB, rl_uI hST s 1, rl_uI hSD s p, rl_uI hRC s q, rl_uI hSI s _, hRI⟩, rq_I_send hI h0 hpq, hH, hzI, fun e he => ?_, fun e he z => ?_, fun e he z => ?_, hdn⟩
  · rw [h1 e (by omega)]
    by_cases w : e = s
    · rw [if_pos w, w, rl_us]
    · rw [if_neg w, rl_un w]; exact hzS e he
  · rw [h2 e (by omega), h3 e (by omega)]
    by_cases w : e = s
    · rw [if_pos w, if_pos w, w, rl_us, rl_us, rl_us]
      exact ⟨by omega, rfl⟩
    · rw [rl_un w] at z
      rw [if_neg w, if_neg w, rl_un w, rl_un w, rl_un w]; exact hzW e he z
  · by_cases w : e = s
    · rw [w, rl_us] at z; omega
    · rw [rl_un w] at z; exact hzR e he z
end
end
section
theorem wl_putH {post : Int64 → Prop} {u : St0} {z0 : Int32} {h : Int64} {H : Nat → Nat → Nat → Nat} {w r s r0 s0 j v : Nat} (hj : j < 16) (hv : v < 16) (hr : r < 4) (hs : s < 4) (hs0 : s0 < 4) (hw : w = r * 4 + s)
    (hh : ∀ i, i < 16 → nk_v h i = H r0 s0 i) (hz : (z0 = 1 ∧ w = r0 * 4 + s0) ∨ (z0 = 0 ∧ w ≠ r0 * 4 + s0)) (k : ∀ z, (∀ i, i < 16 → nk_v z i = rq_put H r s j v r0 s0 i) → post z) : wpL_put post u z0 h (nI j) (nI v) := by
  have hl := nk_lt h j
  unfold wpL_put
  rcases hz with ⟨e, e2⟩ | ⟨e, e2⟩
  · rw [e]
    have er : r0 = r := by omega
    have es : s0 = s := by omega
    refine br_f (by decide) ?_
    refine wl_nib hj ?_
    by_cases l : v ≤ nk_v h j
    · refine br_t (nI_le l (by omega)) ?_
      refine k h (fun i hi => ?_)
      unfold rq_put
      rw [hh j hj, er, es] at l
      rw [if_neg (fun y => by omega)]
      exact hh i hi
    · refine br_f (nI_ge (by omega) (by omega)) ?_
      refine wl_set hj hv (fun z hz => ?_)
      refine k z (fun i hi => ?_)
      rw [hz i hi]
      rw [hh j hj, er, es] at l
      unfold rq_put
      by_cases q : i = j
      · rw [if_pos q, if_pos ⟨⟨er, es, q⟩, by omega⟩]
      · rw [if_neg q, if_neg (fun y => q y.1.2.2)]
        exact hh i hi
  · rw [e]
    refine br_t rfl ?_
    refine k h (fun i hi => ?_)
    unfold rq_put
    rw [if_neg (fun y => e2 (by rw [hw, y.1.1, y.1.2.1]))]
    exact hh i hi
section
variable {n c m : Nat} {iv ct st sd rc si ri : Nat → Nat} {g : Nat → Nat → Nat}
variable {vX IV U CT NB SV ST SD RC PL SI RI LN ND SE : Nat → Int32}
variable {post : Int32 → Prop} {L kc ks kk : Nat} {xs : Nat → Int32} {x1 dn : Int32} {zI zS zW zN zR a1 a2 a3 b0 b2 b3 c0 c1 c3 d0 d1 d2 : Int64} {H : Nat → Nat → Nat → Nat}
theorem lq_747 {J : Int64 → Int64 → Int64 → Int64 → Int64 → Int64 → Int64 → Int64 → Int64 → Int64 → Int64 → Int64 → Int64 → Int64 → Int64 → Int64 → Int64 → Int32 → Int32 → Int32 → Int32 → Int32 → (Nat → Int32) → (Nat → Int32) → (Nat → Int32) → (Nat → Int32) → (Nat → Int32) → (Nat → Int32) → (Nat → Int32) → (Nat → Int32) → (Nat → Int32) → (Nat → Int32) → (Nat → Int32) → (Nat → Int32) → (Nat → Int32) → (Nat → Int32) → (Nat → Int32) → Prop} {w r s j v : Nat} {z0 : Int32} (hj : j < 16) (hv : v < 16) (hr : r < 4) (hs : s < 4) (hw : w = r * 4 + s) (ya1 : ∀ i, i < 16 → nk_v a1 i = rq_put H r s j v 0 1 i) (ya2 : ∀ i, i < 16 → nk_v a2 i = rq_put H r s j v 0 2 i) (ya3 : ∀ i, i < 16 → nk_v a3 i = rq_put H r s j v 0 3 i) (yb0 : ∀ i, i < 16 → nk_v b0 i = rq_put H r s j v 1 0 i) (yb2 : ∀ i, i < 16 → nk_v b2 i = rq_put H r s j v 1 2 i) (yb3 : ∀ i, i < 16 → nk_v b3 i = rq_put H r s j v 1 3 i) (yc0 : ∀ i, i < 16 → nk_v c0 i = rq_put H r s j v 2 0 i) (yc1 : ∀ i, i < 16 → nk_v c1 i = rq_put H r s j v 2 1 i) (yc3 : ∀ i, i < 16 → nk_v c3 i = rq_put H r s j v 2 3 i) (yd0 : ∀ i, i < 16 → nk_v d0 i = rq_put H r s j v 3 0 i) (yd1 : ∀ i, i < 16 → nk_v d1 i = rq_put H r s j v 3 1 i) (yd2 : ∀ i, i < 16 → nk_v d2 i = H 3 2 i)
    (hfin : ∀ a1 a2 a3 b0 b2 b3 c0 c1 c3 d0 d1 d2 : Int64, rq_Hs (rq_put H r s j v) a1 a2 a3 b0 b2 b3 c0 c1 c3 d0 d1 d2 → ∃ fu, wL_law_1332 post L xs J x1 (nI n) (nI m) zI zS zW zN zR a1 a2 a3 b0 b2 b3 c0 c1 c3 d0 d1 d2 dn (nI kk) kc ks (nI n) (nI c) (nI m) vX IV U CT NB SV ST SD RC PL SI RI LN ND SE fu 0)
    (hz : (z0 = 1 ∧ w = 14) ∨ (z0 = 0 ∧ w ≠ 14)) : wL_law_747 post L xs J x1 (nI n) (nI m) zI zS zW zN zR a1 a2 a3 b0 b2 b3 c0 c1 c3 d0 d1 d2 dn (nI kk) (nI j) (nI v) z0 kc ks (nI n) (nI c) (nI m) vX IV U CT NB SV ST SD RC PL SI RI LN ND SE := by
  unfold wL_law_747
  refine wl_putH (r0 := 3) (s0 := 2) hj hv hr hs (by omega) hw yd2 hz (fun z hz2 => ?_)
  exact hfin _ _ _ _ _ _ _ _ _ _ _ _ (fun i hi => ⟨ya1 i hi, ya2 i hi, ya3 i hi, yb0 i hi, yb2 i hi, yb3 i hi, yc0 i hi, yc1 i hi, yc3 i hi, yd0 i hi, yd1 i hi, hz2 i hi⟩)
theorem lq_724 {J : Int64 → Int64 → Int64 → Int64 → Int64 → Int64 → Int64 → Int64 → Int64 → Int64 → Int64 → Int64 → Int64 → Int64 → Int64 → Int64 → Int64 → Int32 → Int32 → Int32 → Int32 → Int32 → (Nat → Int32) → (Nat → Int32) → (Nat → Int32) → (Nat → Int32) → (Nat → Int32) → (Nat → Int32) → (Nat → Int32) → (Nat → Int32) → (Nat → Int32) → (Nat → Int32) → (Nat → Int32) → (Nat → Int32) → (Nat → Int32) → (Nat → Int32) → (Nat → Int32) → Prop} {w r s j v : Nat} {z0 : Int32} (hj : j < 16) (hv : v < 16) (hr : r < 4) (hs : s < 4) (hw : w = r * 4 + s) (ya1 : ∀ i, i < 16 → nk_v a1 i = rq_put H r s j v 0 1 i) (ya2 : ∀ i, i < 16 → nk_v a2 i = rq_put H r s j v 0 2 i) (ya3 : ∀ i, i < 16 → nk_v a3 i = rq_put H r s j v 0 3 i) (yb0 : ∀ i, i < 16 → nk_v b0 i = rq_put H r s j v 1 0 i) (yb2 : ∀ i, i < 16 → nk_v b2 i = rq_put H r s j v 1 2 i) (yb3 : ∀ i, i < 16 → nk_v b3 i = rq_put H r s j v 1 3 i) (yc0 : ∀ i, i < 16 → nk_v c0 i = rq_put H r s j v 2 0 i) (yc1 : ∀ i, i < 16 → nk_v c1 i = rq_put H r s j v 2 1 i) (yc3 : ∀ i, i < 16 → nk_v c3 i = rq_put H r s j v 2 3 i) (yd0 : ∀ i, i < 16 → nk_v d0 i = rq_put H r s j v 3 0 i) (yd1 : ∀ i, i < 16 → nk_v d1 i = H 3 1 i) (yd2 : ∀ i, i < 16 → nk_v d2 i = H 3 2 i)
    (hfin : ∀ a1 a2 a3 b0 b2 b3 c0 c1 c3 d0 d1 d2 : Int64, rq_Hs (rq_put H r s j v) a1 a2 a3 b0 b2 b3 c0 c1 c3 d0 d1 d2 → ∃ fu, wL_law_1332 post L xs J x1 (nI n) (nI m) zI zS zW zN zR a1 a2 a3 b0 b2 b3 c0 c1 c3 d0 d1 d2 dn (nI kk) kc ks (nI n) (nI c) (nI m) vX IV U CT NB SV ST SD RC PL SI RI LN ND SE fu 0)
    (hz : (z0 = 1 ∧ w = 13) ∨ (z0 = 0 ∧ w ≠ 13)) : wL_law_724 post L xs J x1 (nI n) (nI m) zI zS zW zN zR a1 a2 a3 b0 b2 b3 c0 c1 c3 d0 d1 d2 dn (nI kk) (nI w) (nI j) (nI v) z0 kc ks (nI n) (nI c) (nI m) vX IV U CT NB SV ST SD RC PL SI RI LN ND SE := by
  unfold wL_law_724
  refine wl_putH (r0 := 3) (s0 := 1) hj hv hr hs (by omega) hw yd1 hz (fun z hz2 => ?_)
  exact br_c (fun w1 => lq_747 hj hv hr hs hw ya1 ya2 ya3 yb0 yb2 yb3 yc0 yc1 yc3 yd0 hz2 yd2 hfin (Or.inl ⟨rfl, (nI_eq (b := 14) (by omega) (by decide)).mp w1⟩)) (fun w1 => lq_747 hj hv hr hs hw ya1 ya2 ya3 yb0 yb2 yb3 yc0 yc1 yc3 yd0 hz2 yd2 hfin (Or.inr ⟨rfl, fun w2 => w1 (by rw [w2]; rfl)⟩))
theorem lq_701 {J : Int64 → Int64 → Int64 → Int64 → Int64 → Int64 → Int64 → Int64 → Int64 → Int64 → Int64 → Int64 → Int64 → Int64 → Int64 → Int64 → Int64 → Int32 → Int32 → Int32 → Int32 → Int32 → (Nat → Int32) → (Nat → Int32) → (Nat → Int32) → (Nat → Int32) → (Nat → Int32) → (Nat → Int32) → (Nat → Int32) → (Nat → Int32) → (Nat → Int32) → (Nat → Int32) → (Nat → Int32) → (Nat → Int32) → (Nat → Int32) → (Nat → Int32) → (Nat → Int32) → Prop} {w r s j v : Nat} {z0 : Int32} (hj : j < 16) (hv : v < 16) (hr : r < 4) (hs : s < 4) (hw : w = r * 4 + s) (ya1 : ∀ i, i < 16 → nk_v a1 i = rq_put H r s j v 0 1 i) (ya2 : ∀ i, i < 16 → nk_v a2 i = rq_put H r s j v 0 2 i) (ya3 : ∀ i, i < 16 → nk_v a3 i = rq_put H r s j v 0 3 i) (yb0 : ∀ i, i < 16 → nk_v b0 i = rq_put H r s j v 1 0 i) (yb2 : ∀ i, i < 16 → nk_v b2 i = rq_put H r s j v 1 2 i) (yb3 : ∀ i, i < 16 → nk_v b3 i = rq_put H r s j v 1 3 i) (yc0 : ∀ i, i < 16 → nk_v c0 i = rq_put H r s j v 2 0 i) (yc1 : ∀ i, i < 16 → nk_v c1 i = rq_put H r s j v 2 1 i) (yc3 : ∀ i, i < 16 → nk_v c3 i = rq_put H r s j v 2 3 i) (yd0 : ∀ i, i < 16 → nk_v d0 i = H 3 0 i) (yd1 : ∀ i, i < 16 → nk_v d1 i = H 3 1 i) (yd2 : ∀ i, i < 16 → nk_v d2 i = H 3 2 i)
    (hfin : ∀ a1 a2 a3 b0 b2 b3 c0 c1 c3 d0 d1 d2 : Int64, rq_Hs (rq_put H r s j v) a1 a2 a3 b0 b2 b3 c0 c1 c3 d0 d1 d2 → ∃ fu, wL_law_1332 post L xs J x1 (nI n) (nI m) zI zS zW zN zR a1 a2 a3 b0 b2 b3 c0 c1 c3 d0 d1 d2 dn (nI kk) kc ks (nI n) (nI c) (nI m) vX IV U CT NB SV ST SD RC PL SI RI LN ND SE fu 0)
    (hz : (z0 = 1 ∧ w = 12) ∨ (z0 = 0 ∧ w ≠ 12)) : wL_law_701 post L xs J x1 (nI n) (nI m) zI zS zW zN zR a1 a2 a3 b0 b2 b3 c0 c1 c3 d0 d1 d2 dn (nI kk) (nI w) (nI j) (nI v) z0 kc ks (nI n) (nI c) (nI m) vX IV U CT NB SV ST SD RC PL SI RI LN ND SE := by
  unfold wL_law_701
  refine wl_putH (r0 := 3) (s0 := 0) hj hv hr hs (by omega) hw yd0 hz (fun z hz2 => ?_)
  exact br_c (fun w1 => lq_724 hj hv hr hs hw ya1 ya2 ya3 yb0 yb2 yb3 yc0 yc1 yc3 hz2 yd1 yd2 hfin (Or.inl ⟨rfl, (nI_eq (b := 13) (by omega) (by decide)).mp w1⟩)) (fun w1 => lq_724 hj hv hr hs hw ya1 ya2 ya3 yb0 yb2 yb3 yc0 yc1 yc3 hz2 yd1 yd2 hfin (Or.inr ⟨rfl, fun w2 => w1 (by rw [w2]; rfl)⟩))
theorem lq_678 {J : Int64 → Int64 → Int64 → Int64 → Int64 → Int64 → Int64 → Int64 → Int64 → Int64 → Int64 → Int64 → Int64 → Int64 → Int64 → Int64 → Int64 → Int32 → Int32 → Int32 → Int32 → Int32 → (Nat → Int32) → (Nat → Int32) → (Nat → Int32) → (Nat → Int32) → (Nat → Int32) → (Nat → Int32) → (Nat → Int32) → (Nat → Int32) → (Nat → Int32) → (Nat → Int32) → (Nat → Int32) → (Nat → Int32) → (Nat → Int32) → (Nat → Int32) → (Nat → Int32) → Prop} {w r s j v : Nat} {z0 : Int32} (hj : j < 16) (hv : v < 16) (hr : r < 4) (hs : s < 4) (hw : w = r * 4 + s) (ya1 : ∀ i, i < 16 → nk_v a1 i = rq_put H r s j v 0 1 i) (ya2 : ∀ i, i < 16 → nk_v a2 i = rq_put H r s j v 0 2 i) (ya3 : ∀ i, i < 16 → nk_v a3 i = rq_put H r s j v 0 3 i) (yb0 : ∀ i, i < 16 → nk_v b0 i = rq_put H r s j v 1 0 i) (yb2 : ∀ i, i < 16 → nk_v b2 i = rq_put H r s j v 1 2 i) (yb3 : ∀ i, i < 16 → nk_v b3 i = rq_put H r s j v 1 3 i) (yc0 : ∀ i, i < 16 → nk_v c0 i = rq_put H r s j v 2 0 i) (yc1 : ∀ i, i < 16 → nk_v c1 i = rq_put H r s j v 2 1 i) (yc3 : ∀ i, i < 16 → nk_v c3 i = H 2 3 i) (yd0 : ∀ i, i < 16 → nk_v d0 i = H 3 0 i) (yd1 : ∀ i, i < 16 → nk_v d1 i = H 3 1 i) (yd2 : ∀ i, i < 16 → nk_v d2 i = H 3 2 i)
    (hfin : ∀ a1 a2 a3 b0 b2 b3 c0 c1 c3 d0 d1 d2 : Int64, rq_Hs (rq_put H r s j v) a1 a2 a3 b0 b2 b3 c0 c1 c3 d0 d1 d2 → ∃ fu, wL_law_1332 post L xs J x1 (nI n) (nI m) zI zS zW zN zR a1 a2 a3 b0 b2 b3 c0 c1 c3 d0 d1 d2 dn (nI kk) kc ks (nI n) (nI c) (nI m) vX IV U CT NB SV ST SD RC PL SI RI LN ND SE fu 0)
    (hz : (z0 = 1 ∧ w = 11) ∨ (z0 = 0 ∧ w ≠ 11)) : wL_law_678 post L xs J x1 (nI n) (nI m) zI zS zW zN zR a1 a2 a3 b0 b2 b3 c0 c1 c3 d0 d1 d2 dn (nI kk) (nI w) (nI j) (nI v) z0 kc ks (nI n) (nI c) (nI m) vX IV U CT NB SV ST SD RC PL SI RI LN ND SE := by
  unfold wL_law_678
  refine wl_putH (r0 := 2) (s0 := 3) hj hv hr hs (by omega) hw yc3 hz (fun z hz2 => ?_)
  exact br_c (fun w1 => lq_701 hj hv hr hs hw ya1 ya2 ya3 yb0 yb2 yb3 yc0 yc1 hz2 yd0 yd1 yd2 hfin (Or.inl ⟨rfl, (nI_eq (b := 12) (by omega) (by decide)).mp w1⟩)) (fun w1 => lq_701 hj hv hr hs hw ya1 ya2 ya3 yb0 yb2 yb3 yc0 yc1 hz2 yd0 yd1 yd2 hfin (Or.inr ⟨rfl, fun w2 => w1 (by rw [w2]; rfl)⟩))
theorem lq_655 {J : Int64 → Int64 → Int64 → Int64 → Int64 → Int64 → Int64 → Int64 → Int64 → Int64 → Int64 → Int64 → Int64 → Int64 → Int64 → Int64 → Int64 → Int32 → Int32 → Int32 → Int32 → Int32 → (Nat → Int32) → (Nat → Int32) → (Nat → Int32) → (Nat → Int32) → (Nat → Int32) → (Nat → Int32) → (Nat → Int32) → (Nat → Int32) → (Nat → Int32) → (Nat → Int32) → (Nat → Int32) → (Nat → Int32) → (Nat → Int32) → (Nat → Int32) → (Nat → Int32) → Prop} {w r s j v : Nat} {z0 : Int32} (hj : j < 16) (hv : v < 16) (hr : r < 4) (hs : s < 4) (hw : w = r * 4 + s) (ya1 : ∀ i, i < 16 → nk_v a1 i = rq_put H r s j v 0 1 i) (ya2 : ∀ i, i < 16 → nk_v a2 i = rq_put H r s j v 0 2 i) (ya3 : ∀ i, i < 16 → nk_v a3 i = rq_put H r s j v 0 3 i) (yb0 : ∀ i, i < 16 → nk_v b0 i = rq_put H r s j v 1 0 i) (yb2 : ∀ i, i < 16 → nk_v b2 i = rq_put H r s j v 1 2 i) (yb3 : ∀ i, i < 16 → nk_v b3 i = rq_put H r s j v 1 3 i) (yc0 : ∀ i, i < 16 → nk_v c0 i = rq_put H r s j v 2 0 i) (yc1 : ∀ i, i < 16 → nk_v c1 i = H 2 1 i) (yc3 : ∀ i, i < 16 → nk_v c3 i = H 2 3 i) (yd0 : ∀ i, i < 16 → nk_v d0 i = H 3 0 i) (yd1 : ∀ i, i < 16 → nk_v d1 i = H 3 1 i) (yd2 : ∀ i, i < 16 → nk_v d2 i = H 3 2 i)
    (hfin : ∀ a1 a2 a3 b0 b2 b3 c0 c1 c3 d0 d1 d2 : Int64, rq_Hs (rq_put H r s j v) a1 a2 a3 b0 b2 b3 c0 c1 c3 d0 d1 d2 → ∃ fu, wL_law_1332 post L xs J x1 (nI n) (nI m) zI zS zW zN zR a1 a2 a3 b0 b2 b3 c0 c1 c3 d0 d1 d2 dn (nI kk) kc ks (nI n) (nI c) (nI m) vX IV U CT NB SV ST SD RC PL SI RI LN ND SE fu 0)
    (hz : (z0 = 1 ∧ w = 9) ∨ (z0 = 0 ∧ w ≠ 9)) : wL_law_655 post L xs J x1 (nI n) (nI m) zI zS zW zN zR a1 a2 a3 b0 b2 b3 c0 c1 c3 d0 d1 d2 dn (nI kk) (nI w) (nI j) (nI v) z0 kc ks (nI n) (nI c) (nI m) vX IV U CT NB SV ST SD RC PL SI RI LN ND SE := by
  unfold wL_law_655
  refine wl_putH (r0 := 2) (s0 := 1) hj hv hr hs (by omega) hw yc1 hz (fun z hz2 => ?_)
  exact br_c (fun w1 => lq_678 hj hv hr hs hw ya1 ya2 ya3 yb0 yb2 yb3 yc0 hz2 yc3 yd0 yd1 yd2 hfin (Or.inl ⟨rfl, (nI_eq (b := 11) (by omega) (by decide)).mp w1⟩)) (fun w1 => lq_678 hj hv hr hs hw ya1 ya2 ya3 yb0 yb2 yb3 yc0 hz2 yc3 yd0 yd1 yd2 hfin (Or.inr ⟨rfl, fun w2 => w1 (by rw [w2]; rfl)⟩))
theorem lq_632 {J : Int64 → Int64 → Int64 → Int64 → Int64 → Int64 → Int64 → Int64 → Int64 → Int64 → Int64 → Int64 → Int64 → Int64 → Int64 → Int64 → Int64 → Int32 → Int32 → Int32 → Int32 → Int32 → (Nat → Int32) → (Nat → Int32) → (Nat → Int32) → (Nat → Int32) → (Nat → Int32) → (Nat → Int32) → (Nat → Int32) → (Nat → Int32) → (Nat → Int32) → (Nat → Int32) → (Nat → Int32) → (Nat → Int32) → (Nat → Int32) → (Nat → Int32) → (Nat → Int32) → Prop} {w r s j v : Nat} {z0 : Int32} (hj : j < 16) (hv : v < 16) (hr : r < 4) (hs : s < 4) (hw : w = r * 4 + s) (ya1 : ∀ i, i < 16 → nk_v a1 i = rq_put H r s j v 0 1 i) (ya2 : ∀ i, i < 16 → nk_v a2 i = rq_put H r s j v 0 2 i) (ya3 : ∀ i, i < 16 → nk_v a3 i = rq_put H r s j v 0 3 i) (yb0 : ∀ i, i < 16 → nk_v b0 i = rq_put H r s j v 1 0 i) (yb2 : ∀ i, i < 16 → nk_v b2 i = rq_put H r s j v 1 2 i) (yb3 : ∀ i, i < 16 → nk_v b3 i = rq_put H r s j v 1 3 i) (yc0 : ∀ i, i < 16 → nk_v c0 i = H 2 0 i) (yc1 : ∀ i, i < 16 → nk_v c1 i = H 2 1 i) (yc3 : ∀ i, i < 16 → nk_v c3 i = H 2 3 i) (yd0 : ∀ i, i < 16 → nk_v d0 i = H 3 0 i) (yd1 : ∀ i, i < 16 → nk_v d1 i = H 3 1 i) (yd2 : ∀ i, i < 16 → nk_v d2 i = H 3 2 i)
    (hfin : ∀ a1 a2 a3 b0 b2 b3 c0 c1 c3 d0 d1 d2 : Int64, rq_Hs (rq_put H r s j v) a1 a2 a3 b0 b2 b3 c0 c1 c3 d0 d1 d2 → ∃ fu, wL_law_1332 post L xs J x1 (nI n) (nI m) zI zS zW zN zR a1 a2 a3 b0 b2 b3 c0 c1 c3 d0 d1 d2 dn (nI kk) kc ks (nI n) (nI c) (nI m) vX IV U CT NB SV ST SD RC PL SI RI LN ND SE fu 0)
    (hz : (z0 = 1 ∧ w = 8) ∨ (z0 = 0 ∧ w ≠ 8)) : wL_law_632 post L xs J x1 (nI n) (nI m) zI zS zW zN zR a1 a2 a3 b0 b2 b3 c0 c1 c3 d0 d1 d2 dn (nI kk) (nI w) (nI j) (nI v) z0 kc ks (nI n) (nI c) (nI m) vX IV U CT NB SV ST SD RC PL SI RI LN ND SE := by
  unfold wL_law_632
  refine wl_putH (r0 := 2) (s0 := 0) hj hv hr hs (by omega) hw yc0 hz (fun z hz2 => ?_)
  exact br_c (fun w1 => lq_655 hj hv hr hs hw ya1 ya2 ya3 yb0 yb2 yb3 hz2 yc1 yc3 yd0 yd1 yd2 hfin (Or.inl ⟨rfl, (nI_eq (b := 9) (by omega) (by decide)).mp w1⟩)) (fun w1 => lq_655 hj hv hr hs hw ya1 ya2 ya3 yb0 yb2 yb3 hz2 yc1 yc3 yd0 yd1 yd2 hfin (Or.inr ⟨rfl, fun w2 => w1 (by rw [w2]; rfl)⟩))
theorem lq_609 {J : Int64 → Int64 → Int64 → Int64 → Int64 → Int64 → Int64 → Int64 → Int64 → Int64 → Int64 → Int64 → Int64 → Int64 → Int64 → Int64 → Int64 → Int32 → Int32 → Int32 → Int32 → Int32 → (Nat → Int32) → (Nat → Int32) → (Nat → Int32) → (Nat → Int32) → (Nat → Int32) → (Nat → Int32) → (Nat → Int32) → (Nat → Int32) → (Nat → Int32) → (Nat → Int32) → (Nat → Int32) → (Nat → Int32) → (Nat → Int32) → (Nat → Int32) → (Nat → Int32) → Prop} {w r s j v : Nat} {z0 : Int32} (hj : j < 16) (hv : v < 16) (hr : r < 4) (hs : s < 4) (hw : w = r * 4 + s) (ya1 : ∀ i, i < 16 → nk_v a1 i = rq_put H r s j v 0 1 i) (ya2 : ∀ i, i < 16 → nk_v a2 i = rq_put H r s j v 0 2 i) (ya3 : ∀ i, i < 16 → nk_v a3 i = rq_put H r s j v 0 3 i) (yb0 : ∀ i, i < 16 → nk_v b0 i = rq_put H r s j v 1 0 i) (yb2 : ∀ i, i < 16 → nk_v b2 i = rq_put H r s j v 1 2 i) (yb3 : ∀ i, i < 16 → nk_v b3 i = H 1 3 i) (yc0 : ∀ i, i < 16 → nk_v c0 i = H 2 0 i) (yc1 : ∀ i, i < 16 → nk_v c1 i = H 2 1 i) (yc3 : ∀ i, i < 16 → nk_v c3 i = H 2 3 i) (yd0 : ∀ i, i < 16 → nk_v d0 i = H 3 0 i) (yd1 : ∀ i, i < 16 → nk_v d1 i = H 3 1 i) (yd2 : ∀ i, i < 16 → nk_v d2 i = H 3 2 i)
    (hfin : ∀ a1 a2 a3 b0 b2 b3 c0 c1 c3 d0 d1 d2 : Int64, rq_Hs (rq_put H r s j v) a1 a2 a3 b0 b2 b3 c0 c1 c3 d0 d1 d2 → ∃ fu, wL_law_1332 post L xs J x1 (nI n) (nI m) zI zS zW zN zR a1 a2 a3 b0 b2 b3 c0 c1 c3 d0 d1 d2 dn (nI kk) kc ks (nI n) (nI c) (nI m) vX IV U CT NB SV ST SD RC PL SI RI LN ND SE fu 0)
    (hz : (z0 = 1 ∧ w = 7) ∨ (z0 = 0 ∧ w ≠ 7)) : wL_law_609 post L xs J x1 (nI n) (nI m) zI zS zW zN zR a1 a2 a3 b0 b2 b3 c0 c1 c3 d0 d1 d2 dn (nI kk) (nI w) (nI j) (nI v) z0 kc ks (nI n) (nI c) (nI m) vX IV U CT NB SV ST SD RC PL SI RI LN ND SE := by
  unfold wL_law_609
  refine wl_putH (r0 := 1) (s0 := 3) hj hv hr hs (by omega) hw yb3 hz (fun z hz2 => ?_)
  exact br_c (fun w1 => lq_632 hj hv hr hs hw ya1 ya2 ya3 yb0 yb2 hz2 yc0 yc1 yc3 yd0 yd1 yd2 hfin (Or.inl ⟨rfl, (nI_eq (b := 8) (by omega) (by decide)).mp w1⟩)) (fun w1 => lq_632 hj hv hr hs hw ya1 ya2 ya3 yb0 yb2 hz2 yc0 yc1 yc3 yd0 yd1 yd2 hfin (Or.inr ⟨rfl, fun w2 => w1 (by rw [w2]; rfl)⟩))
theorem lq_586 {J : Int64 → Int64 → Int64 → Int64 → Int64 → Int64 → Int64 → Int64 → Int64 → Int64 → Int64 → Int64 → Int64 → Int64 → Int64 → Int64 → Int64 → Int32 → Int32 → Int32 → Int32 → Int32 → (Nat → Int32) → (Nat → Int32) → (Nat → Int32) → (Nat → Int32) → (Nat → Int32) → (Nat → Int32) → (Nat → Int32) → (Nat → Int32) → (Nat → Int32) → (Nat → Int32) → (Nat → Int32) → (Nat → Int32) → (Nat → Int32) → (Nat → Int32) → (Nat → Int32) → Prop} {w r s j v : Nat} {z0 : Int32} (hj : j < 16) (hv : v < 16) (hr : r < 4) (hs : s < 4) (hw : w = r * 4 + s) (ya1 : ∀ i, i < 16 → nk_v a1 i = rq_put H r s j v 0 1 i) (ya2 : ∀ i, i < 16 → nk_v a2 i = rq_put H r s j v 0 2 i) (ya3 : ∀ i, i < 16 → nk_v a3 i = rq_put H r s j v 0 3 i) (yb0 : ∀ i, i < 16 → nk_v b0 i = rq_put H r s j v 1 0 i) (yb2 : ∀ i, i < 16 → nk_v b2 i = H 1 2 i) (yb3 : ∀ i, i < 16 → nk_v b3 i = H 1 3 i) (yc0 : ∀ i, i < 16 → nk_v c0 i = H 2 0 i) (yc1 : ∀ i, i < 16 → nk_v c1 i = H 2 1 i) (yc3 : ∀ i, i < 16 → nk_v c3 i = H 2 3 i) (yd0 : ∀ i, i < 16 → nk_v d0 i = H 3 0 i) (yd1 : ∀ i, i < 16 → nk_v d1 i = H 3 1 i) (yd2 : ∀ i, i < 16 → nk_v d2 i = H 3 2 i)
    (hfin : ∀ a1 a2 a3 b0 b2 b3 c0 c1 c3 d0 d1 d2 : Int64, rq_Hs (rq_put H r s j v) a1 a2 a3 b0 b2 b3 c0 c1 c3 d0 d1 d2 → ∃ fu, wL_law_1332 post L xs J x1 (nI n) (nI m) zI zS zW zN zR a1 a2 a3 b0 b2 b3 c0 c1 c3 d0 d1 d2 dn (nI kk) kc ks (nI n) (nI c) (nI m) vX IV U CT NB SV ST SD RC PL SI RI LN ND SE fu 0)
    (hz : (z0 = 1 ∧ w = 6) ∨ (z0 = 0 ∧ w ≠ 6)) : wL_law_586 post L xs J x1 (nI n) (nI m) zI zS zW zN zR a1 a2 a3 b0 b2 b3 c0 c1 c3 d0 d1 d2 dn (nI kk) (nI w) (nI j) (nI v) z0 kc ks (nI n) (nI c) (nI m) vX IV U CT NB SV ST SD RC PL SI RI LN ND SE := by
  unfold wL_law_586
  refine wl_putH (r0 := 1) (s0 := 2) hj hv hr hs (by omega) hw yb2 hz (fun z hz2 => ?_)
  exact br_c (fun w1 => lq_609 hj hv hr hs hw ya1 ya2 ya3 yb0 hz2 yb3 yc0 yc1 yc3 yd0 yd1 yd2 hfin (Or.inl ⟨rfl, (nI_eq (b := 7) (by omega) (by decide)).mp w1⟩)) (fun w1 => lq_609 hj hv hr hs hw ya1 ya2 ya3 yb0 hz2 yb3 yc0 yc1 yc3 yd0 yd1 yd2 hfin (Or.inr ⟨rfl, fun w2 => w1 (by rw [w2]; rfl)⟩))
theorem lq_563 {J : Int64 → Int64 → Int64 → Int64 → Int64 → Int64 → Int64 → Int64 → Int64 → Int64 → Int64 → Int64 → Int64 → Int64 → Int64 → Int64 → Int64 → Int32 → Int32 → Int32 → Int32 → Int32 → (Nat → Int32) → (Nat → Int32) → (Nat → Int32) → (Nat → Int32) → (Nat → Int32) → (Nat → Int32) → (Nat → Int32) → (Nat → Int32) → (Nat → Int32) → (Nat → Int32) → (Nat → Int32) → (Nat → Int32) → (Nat → Int32) → (Nat → Int32) → (Nat → Int32) → Prop} {w r s j v : Nat} {z0 : Int32} (hj : j < 16) (hv : v < 16) (hr : r < 4) (hs : s < 4) (hw : w = r * 4 + s) (ya1 : ∀ i, i < 16 → nk_v a1 i = rq_put H r s j v 0 1 i) (ya2 : ∀ i, i < 16 → nk_v a2 i = rq_put H r s j v 0 2 i) (ya3 : ∀ i, i < 16 → nk_v a3 i = rq_put H r s j v 0 3 i) (yb0 : ∀ i, i < 16 → nk_v b0 i = H 1 0 i) (yb2 : ∀ i, i < 16 → nk_v b2 i = H 1 2 i) (yb3 : ∀ i, i < 16 → nk_v b3 i = H 1 3 i) (yc0 : ∀ i, i < 16 → nk_v c0 i = H 2 0 i) (yc1 : ∀ i, i < 16 → nk_v c1 i = H 2 1 i) (yc3 : ∀ i, i < 16 → nk_v c3 i = H 2 3 i) (yd0 : ∀ i, i < 16 → nk_v d0 i = H 3 0 i) (yd1 : ∀ i, i < 16 → nk_v d1 i = H 3 1 i) (yd2 : ∀ i, i < 16 → nk_v d2 i = H 3 2 i)
    (hfin : ∀ a1 a2 a3 b0 b2 b3 c0 c1 c3 d0 d1 d2 : Int64, rq_Hs (rq_put H r s j v) a1 a2 a3 b0 b2 b3 c0 c1 c3 d0 d1 d2 → ∃ fu, wL_law_1332 post L xs J x1 (nI n) (nI m) zI zS zW zN zR a1 a2 a3 b0 b2 b3 c0 c1 c3 d0 d1 d2 dn (nI kk) kc ks (nI n) (nI c) (nI m) vX IV U CT NB SV ST SD RC PL SI RI LN ND SE fu 0)
    (hz : (z0 = 1 ∧ w = 4) ∨ (z0 = 0 ∧ w ≠ 4)) : wL_law_563 post L xs J x1 (nI n) (nI m) zI zS zW zN zR a1 a2 a3 b0 b2 b3 c0 c1 c3 d0 d1 d2 dn (nI kk) (nI w) (nI j) (nI v) z0 kc ks (nI n) (nI c) (nI m) vX IV U CT NB SV ST SD RC PL SI RI LN ND SE := by
  unfold wL_law_563
  refine wl_putH (r0 := 1) (s0 := 0) hj hv hr hs (by omega) hw yb0 hz (fun z hz2 => ?_)
  exact br_c (fun w1 => lq_586 hj hv hr hs hw ya1 ya2 ya3 hz2 yb2 yb3 yc0 yc1 yc3 yd0 yd1 yd2 hfin (Or.inl ⟨rfl, (nI_eq (b := 6) (by omega) (by decide)).mp w1⟩)) (fun w1 => lq_586 hj hv hr hs hw ya1 ya2 ya3 hz2 yb2 yb3 yc0 yc1 yc3 yd0 yd1 yd2 hfin (Or.inr ⟨rfl, fun w2 => w1 (by rw [w2]; rfl)⟩))
theorem lq_541 {J : Int64 → Int64 → Int64 → Int64 → Int64 → Int64 → Int64 → Int64 → Int64 → Int64 → Int64 → Int64 → Int64 → Int64 → Int64 → Int64 → Int64 → Int32 → Int32 → Int32 → Int32 → Int32 → (Nat → Int32) → (Nat → Int32) → (Nat → Int32) → (Nat → Int32) → (Nat → Int32) → (Nat → Int32) → (Nat → Int32) → (Nat → Int32) → (Nat → Int32) → (Nat → Int32) → (Nat → Int32) → (Nat → Int32) → (Nat → Int32) → (Nat → Int32) → (Nat → Int32) → Prop} {w r s j v : Nat} {z0 : Int32} (hj : j < 16) (hv : v < 16) (hr : r < 4) (hs : s < 4) (hw : w = r * 4 + s) (ya1 : ∀ i, i < 16 → nk_v a1 i = rq_put H r s j v 0 1 i) (ya2 : ∀ i, i < 16 → nk_v a2 i = rq_put H r s j v 0 2 i) (ya3 : ∀ i, i < 16 → nk_v a3 i = H 0 3 i) (yb0 : ∀ i, i < 16 → nk_v b0 i = H 1 0 i) (yb2 : ∀ i, i < 16 → nk_v b2 i = H 1 2 i) (yb3 : ∀ i, i < 16 → nk_v b3 i = H 1 3 i) (yc0 : ∀ i, i < 16 → nk_v c0 i = H 2 0 i) (yc1 : ∀ i, i < 16 → nk_v c1 i = H 2 1 i) (yc3 : ∀ i, i < 16 → nk_v c3 i = H 2 3 i) (yd0 : ∀ i, i < 16 → nk_v d0 i = H 3 0 i) (yd1 : ∀ i, i < 16 → nk_v d1 i = H 3 1 i) (yd2 : ∀ i, i < 16 → nk_v d2 i = H 3 2 i)
    (hfin : ∀ a1 a2 a3 b0 b2 b3 c0 c1 c3 d0 d1 d2 : Int64, rq_Hs (rq_put H r s j v) a1 a2 a3 b0 b2 b3 c0 c1 c3 d0 d1 d2 → ∃ fu, wL_law_1332 post L xs J x1 (nI n) (nI m) zI zS zW zN zR a1 a2 a3 b0 b2 b3 c0 c1 c3 d0 d1 d2 dn (nI kk) kc ks (nI n) (nI c) (nI m) vX IV U CT NB SV ST SD RC PL SI RI LN ND SE fu 0)
    (hz : (z0 = 1 ∧ w = 3) ∨ (z0 = 0 ∧ w ≠ 3)) : wL_law_541 post L xs J x1 (nI n) (nI m) zI zS zW zN zR a1 a2 a3 b0 b2 b3 c0 c1 c3 d0 d1 d2 dn (nI kk) (nI w) (nI j) (nI v) z0 kc ks (nI n) (nI c) (nI m) vX IV U CT NB SV ST SD RC PL SI RI LN ND SE := by
  unfold wL_law_541
  refine wl_putH (r0 := 0) (s0 := 3) hj hv hr hs (by omega) hw ya3 hz (fun z hz2 => ?_)
  exact br_c (fun w1 => lq_563 hj hv hr hs hw ya1 ya2 hz2 yb0 yb2 yb3 yc0 yc1 yc3 yd0 yd1 yd2 hfin (Or.inl ⟨rfl, (nI_eq (b := 4) (by omega) (by decide)).mp w1⟩)) (fun w1 => lq_563 hj hv hr hs hw ya1 ya2 hz2 yb0 yb2 yb3 yc0 yc1 yc3 yd0 yd1 yd2 hfin (Or.inr ⟨rfl, fun w2 => w1 (by rw [w2]; rfl)⟩))
theorem lq_519 {J : Int64 → Int64 → Int64 → Int64 → Int64 → Int64 → Int64 → Int64 → Int64 → Int64 → Int64 → Int64 → Int64 → Int64 → Int64 → Int64 → Int64 → Int32 → Int32 → Int32 → Int32 → Int32 → (Nat → Int32) → (Nat → Int32) → (Nat → Int32) → (Nat → Int32) → (Nat → Int32) → (Nat → Int32) → (Nat → Int32) → (Nat → Int32) → (Nat → Int32) → (Nat → Int32) → (Nat → Int32) → (Nat → Int32) → (Nat → Int32) → (Nat → Int32) → (Nat → Int32) → Prop} {w r s j v : Nat} {z0 : Int32} (hj : j < 16) (hv : v < 16) (hr : r < 4) (hs : s < 4) (hw : w = r * 4 + s) (ya1 : ∀ i, i < 16 → nk_v a1 i = rq_put H r s j v 0 1 i) (ya2 : ∀ i, i < 16 → nk_v a2 i = H 0 2 i) (ya3 : ∀ i, i < 16 → nk_v a3 i = H 0 3 i) (yb0 : ∀ i, i < 16 → nk_v b0 i = H 1 0 i) (yb2 : ∀ i, i < 16 → nk_v b2 i = H 1 2 i) (yb3 : ∀ i, i < 16 → nk_v b3 i = H 1 3 i) (yc0 : ∀ i, i < 16 → nk_v c0 i = H 2 0 i) (yc1 : ∀ i, i < 16 → nk_v c1 i = H 2 1 i) (yc3 : ∀ i, i < 16 → nk_v c3 i = H 2 3 i) (yd0 : ∀ i, i < 16 → nk_v d0 i = H 3 0 i) (yd1 : ∀ i, i < 16 → nk_v d1 i = H 3 1 i) (yd2 : ∀ i, i < 16 → nk_v d2 i = H 3 2 i)
    (hfin : ∀ a1 a2 a3 b0 b2 b3 c0 c1 c3 d0 d1 d2 : Int64, rq_Hs (rq_put H r s j v) a1 a2 a3 b0 b2 b3 c0 c1 c3 d0 d1 d2 → ∃ fu, wL_law_1332 post L xs J x1 (nI n) (nI m) zI zS zW zN zR a1 a2 a3 b0 b2 b3 c0 c1 c3 d0 d1 d2 dn (nI kk) kc ks (nI n) (nI c) (nI m) vX IV U CT NB SV ST SD RC PL SI RI LN ND SE fu 0)
    (hz : (z0 = 1 ∧ w = 2) ∨ (z0 = 0 ∧ w ≠ 2)) : wL_law_519 post L xs J x1 (nI n) (nI m) zI zS zW zN zR a1 a2 a3 b0 b2 b3 c0 c1 c3 d0 d1 d2 dn (nI kk) (nI w) (nI j) (nI v) z0 kc ks (nI n) (nI c) (nI m) vX IV U CT NB SV ST SD RC PL SI RI LN ND SE := by
  unfold wL_law_519
  refine wl_putH (r0 := 0) (s0 := 2) hj hv hr hs (by omega) hw ya2 hz (fun z hz2 => ?_)
  exact br_c (fun w1 => lq_541 hj hv hr hs hw ya1 hz2 ya3 yb0 yb2 yb3 yc0 yc1 yc3 yd0 yd1 yd2 hfin (Or.inl ⟨rfl, (nI_eq (b := 3) (by omega) (by decide)).mp w1⟩)) (fun w1 => lq_541 hj hv hr hs hw ya1 hz2 ya3 yb0 yb2 yb3 yc0 yc1 yc3 yd0 yd1 yd2 hfin (Or.inr ⟨rfl, fun w2 => w1 (by rw [w2]; rfl)⟩))
theorem lq_497 {J : Int64 → Int64 → Int64 → Int64 → Int64 → Int64 → Int64 → Int64 → Int64 → Int64 → Int64 → Int64 → Int64 → Int64 → Int64 → Int64 → Int64 → Int32 → Int32 → Int32 → Int32 → Int32 → (Nat → Int32) → (Nat → Int32) → (Nat → Int32) → (Nat → Int32) → (Nat → Int32) → (Nat → Int32) → (Nat → Int32) → (Nat → Int32) → (Nat → Int32) → (Nat → Int32) → (Nat → Int32) → (Nat → Int32) → (Nat → Int32) → (Nat → Int32) → (Nat → Int32) → Prop} {w r s j v : Nat} {z0 : Int32} (hj : j < 16) (hv : v < 16) (hr : r < 4) (hs : s < 4) (hw : w = r * 4 + s) (ya1 : ∀ i, i < 16 → nk_v a1 i = H 0 1 i) (ya2 : ∀ i, i < 16 → nk_v a2 i = H 0 2 i) (ya3 : ∀ i, i < 16 → nk_v a3 i = H 0 3 i) (yb0 : ∀ i, i < 16 → nk_v b0 i = H 1 0 i) (yb2 : ∀ i, i < 16 → nk_v b2 i = H 1 2 i) (yb3 : ∀ i, i < 16 → nk_v b3 i = H 1 3 i) (yc0 : ∀ i, i < 16 → nk_v c0 i = H 2 0 i) (yc1 : ∀ i, i < 16 → nk_v c1 i = H 2 1 i) (yc3 : ∀ i, i < 16 → nk_v c3 i = H 2 3 i) (yd0 : ∀ i, i < 16 → nk_v d0 i = H 3 0 i) (yd1 : ∀ i, i < 16 → nk_v d1 i = H 3 1 i) (yd2 : ∀ i, i < 16 → nk_v d2 i = H 3 2 i)
    (hfin : ∀ a1 a2 a3 b0 b2 b3 c0 c1 c3 d0 d1 d2 : Int64, rq_Hs (rq_put H r s j v) a1 a2 a3 b0 b2 b3 c0 c1 c3 d0 d1 d2 → ∃ fu, wL_law_1332 post L xs J x1 (nI n) (nI m) zI zS zW zN zR a1 a2 a3 b0 b2 b3 c0 c1 c3 d0 d1 d2 dn (nI kk) kc ks (nI n) (nI c) (nI m) vX IV U CT NB SV ST SD RC PL SI RI LN ND SE fu 0)
    (hz : (z0 = 1 ∧ w = 1) ∨ (z0 = 0 ∧ w ≠ 1)) : wL_law_497 post L xs J x1 (nI n) (nI m) zI zS zW zN zR a1 a2 a3 b0 b2 b3 c0 c1 c3 d0 d1 d2 dn (nI kk) (nI w) (nI j) (nI v) z0 kc ks (nI n) (nI c) (nI m) vX IV U CT NB SV ST SD RC PL SI RI LN ND SE := by
  unfold wL_law_497
  refine wl_putH (r0 := 0) (s0 := 1) hj hv hr hs (by omega) hw ya1 hz (fun z hz2 => ?_)
  exact br_c (fun w1 => lq_519 hj hv hr hs hw hz2 ya2 ya3 yb0 yb2 yb3 yc0 yc1 yc3 yd0 yd1 yd2 hfin (Or.inl ⟨rfl, (nI_eq (b := 2) (by omega) (by decide)).mp w1⟩)) (fun w1 => lq_519 hj hv hr hs hw hz2 ya2 ya3 yb0 yb2 yb3 yc0 yc1 yc3 yd0 yd1 yd2 hfin (Or.inr ⟨rfl, fun w2 => w1 (by rw [w2]; rfl)⟩))
theorem lq_405 {J : Int64 → Int64 → Int64 → Int64 → Int64 → Int64 → Int64 → Int64 → Int64 → Int64 → Int64 → Int64 → Int64 → Int64 → Int64 → Int64 → Int64 → Int32 → Int32 → Int32 → Int32 → Int32 → (Nat → Int32) → (Nat → Int32) → (Nat → Int32) → (Nat → Int32) → (Nat → Int32) → (Nat → Int32) → (Nat → Int32) → (Nat → Int32) → (Nat → Int32) → (Nat → Int32) → (Nat → Int32) → (Nat → Int32) → (Nat → Int32) → (Nat → Int32) → (Nat → Int32) → Prop} (hJ : rq_J n c m kk J) (hL : L ≤ 260) (hkk : kk ≤ 1000) (hR : rq_R n c m iv ct g st sd rc si ri H zI zS zW zN zR a1 a2 a3 b0 b2 b3 c0 c1 c3 d0 d1 d2 dn IV U CT NB ST SD RC SI RI) {x45 : Int32} (hat : x45 < 0 ∨ ∃ e, e < m ∧ st e = 1 ∧ x45 = nI e) : wL_law_405 post L xs J x1 (nI n) (nI m) zI zS zW zN zR a1 a2 a3 b0 b2 b3 c0 c1 c3 d0 d1 d2 dn (nI kk) x45 kc ks (nI n) (nI c) (nI m) vX IV U CT NB SV ST SD RC PL SI RI LN ND SE := by
  have hR' := hR
  obtain ⟨hA, hI, hH, hzI, hzS, hzW, hzR, hdn⟩ := hR'
  have hA' := hA
  obtain ⟨hW, hIV, hCT, hNB, hST, hSD, hRC, hSI, hRI⟩ := hA'
  have hW' := hW
  obtain ⟨⟨⟨n2, n4⟩, ⟨c3h, c8⟩, ⟨m4, m16⟩⟩, hS, hM, hB⟩ := hW'
  have hgo := lq_go (kc := kc) (ks := ks) (post := post) (xs := xs) (x1 := x1) (vX := vX) (SV := SV) (PL := PL) (LN := LN) (ND := ND) (SE := SE) hJ hL hkk hR
  unfold wL_law_405
  rcases hat with h | ⟨e, he, h1, rfl⟩
  · exact br_t h hgo
  · obtain ⟨t1, t2, t3, t4, t5⟩ := hM.1 e
    have hzi := hzI (rc e) (by omega)
    rw [if_pos t3] at hzi
    have h14 := hI.1 _ t3
    have h14s := hI.1 _ t2
    obtain ⟨w1, w2⟩ := hzW e he (by omega)
    obtain ⟨i3a, i3b⟩ := hI.2.2.1 e he (by omega)
    refine br_f (nI_pos (by omega)) ?_
    refine rx_deliver hA he (fun z => absurd h1 z) (fun _ _ => br_f (by decide) hgo) (fun _ hu vX1 => ?_)
    refine br_t rfl ?_
    refine wl_nib (by omega) ?_
    refine wl_nib (by omega) ?_
    rw [w1]
    have e1 : nI (sd e + 4 * rc e) >>> ((2 : Int32) &&& 31) = nI (rc e) := by
      rw [pk_shrN (by omega) _ 2 (by decide)]
      congr 1
      omega
    have e2 : nI (sd e + 4 * rc e) &&& 3 = nI (sd e) := by
      rw [pk_andN (by omega) 2 (by decide)]
      congr 1
      omega
    have e3 : nI (rc e) * 4 = nI (rc e * 4) := pk_mul _ 4
    have e4 : nI (rc e * 4 + sd e) >>> ((2 : Int32) &&& 31) = nI (rc e) := by
      rw [pk_shrN (by omega) _ 2 (by decide)]
      congr 1
      omega
    rw [e1, e2, e3, nI_add]
    refine nm_e ?_
    rw [e4]
    refine wl_nib (by omega) ?_
    refine wl_nib (by omega) ?_
    rw [hzi, w2, nI_1]
    refine nm_e ?_
    refine wl_set (v := 2) (by omega) (by omega) (fun z1 hz1 => ?_)
    refine wl_set (by omega) (by omega) (fun z2 hz2 => ?_)
    have hfin : ∀ a1 a2 a3 b0 b2 b3 c0 c1 c3 d0 d1 d2 : Int64, rq_Hs (rq_put H (rc e) (sd e) (iv (rc e)) (si e + 1)) a1 a2 a3 b0 b2 b3 c0 c1 c3 d0 d1 d2 →
        ∃ fu, wL_law_1332 post L xs J x1 (nI n) (nI m) zI z1 zW zN z2 a1 a2 a3 b0 b2 b3 c0 c1 c3 d0 d1 d2 dn (nI kk) kc ks (nI n) (nI c) (nI m) vX1 IV U CT NB SV (upd ST e 2) SD RC PL SI (upd RI e (nI (iv (rc e)))) LN ND SE fu 0 := by
      intro a1 a2 a3 b0 b2 b3 c0 c1 c3 d0 d1 d2 hHs
      refine lq_go hJ hL hkk (iv := iv) (ct := ct) (g := g) (st := rl_u st e 2) (sd := sd) (rc := rc) (si := si) (ri := rl_u ri e (iv (rc e))) (H := rq_put H (rc e) (sd e) (iv (rc e)) (si e + 1)) ?_
      refine ⟨⟨rl_W_deliver hW, hIV, hCT, hNB, rl_uI hST e 2, hSD, hRC, hSI, rl_uI hRI e _⟩, rq_I_deliver n4 hM hI he h1, hHs, hzI, fun f hf => ?_, fun f hf z => ?_, fun f hf z => ?_, hdn⟩
      · rw [hz1 f (by omega)]
        by_cases w : f = e
        · rw [if_pos w, w, rl_us]
        · rw [if_neg w, rl_un w]; exact hzS f hf
      · by_cases w : f = e
        · rw [w]; exact ⟨w1, w2⟩
        · rw [rl_un w] at z; exact hzW f hf z
      · rw [hz2 f (by omega)]
        by_cases w : f = e
        · rw [if_pos w, w, rl_us]
        · rw [rl_un w] at z
          rw [if_neg w, rl_un w]; exact hzR f hf z
    have hh := hH
    exact br_c (fun y => lq_497 (by omega) (by omega) (by omega) (by omega) rfl (fun i hi => (hh i hi).1) (fun i hi => (hh i hi).2.1) (fun i hi => (hh i hi).2.2.1) (fun i hi => (hh i hi).2.2.2.1) (fun i hi => (hh i hi).2.2.2.2.1) (fun i hi => (hh i hi).2.2.2.2.2.1) (fun i hi => (hh i hi).2.2.2.2.2.2.1) (fun i hi => (hh i hi).2.2.2.2.2.2.2.1) (fun i hi => (hh i hi).2.2.2.2.2.2.2.2.1) (fun i hi => (hh i hi).2.2.2.2.2.2.2.2.2.1) (fun i hi => (hh i hi).2.2.2.2.2.2.2.2.2.2.1) (fun i hi => (hh i hi).2.2.2.2.2.2.2.2.2.2.2) hfin (Or.inl ⟨rfl, (nI_eq (b := 1) (by omega) (by decide)).mp y⟩))
      (fun y => lq_497 (by omega) (by omega) (by omega) (by omega) rfl (fun i hi => (hh i hi).1) (fun i hi => (hh i hi).2.1) (fun i hi => (hh i hi).2.2.1) (fun i hi => (hh i hi).2.2.2.1) (fun i hi => (hh i hi).2.2.2.2.1) (fun i hi => (hh i hi).2.2.2.2.2.1) (fun i hi => (hh i hi).2.2.2.2.2.2.1) (fun i hi => (hh i hi).2.2.2.2.2.2.2.1) (fun i hi => (hh i hi).2.2.2.2.2.2.2.2.1) (fun i hi => (hh i hi).2.2.2.2.2.2.2.2.2.1) (fun i hi => (hh i hi).2.2.2.2.2.2.2.2.2.2.1) (fun i hi => (hh i hi).2.2.2.2.2.2.2.2.2.2.2) hfin (Or.inr ⟨rfl, fun w => y (by rw [w]; rfl)⟩))
end
end
section
theorem rl_mn {n p : Nat} {f : Nat → Bool} {a b : Nat → Int32} : rl_mix n (rl_nf f a b) b p = if p < n ∧ f p = true then a p else b p := by
  by_cases h : p < n
  · rw [rl_mix_lt h]
    by_cases e : f p = true
    · rw [if_pos ⟨h, e⟩]; exact if_pos e
    · rw [if_neg (fun z => e z.2)]; exact if_neg e
  · rw [rl_mix_ge (by omega), if_neg (fun z => h z.1)]
theorem rl_or_ext {f h : Nat → Bool} : ∀ n, (∀ p, p < n → f p = h p) → rl_or f n = rl_or h n := by
  intro n
  induction n with
  | zero => intro _; rfl
  | succ n ih =>
    intro e
    have h1 := ih (fun p hp => e p (by omega))
    have h2 := e n (by omega)
    by_cases a : f n = true
    · rw [rl_or_t a, rl_or_t (by rw [← h2]; exact a), h1]
    · rw [rl_or_f a, rl_or_f (by rw [← h2]; exact a), h1]
theorem rl_or_0 : ∀ n, rl_or (fun _ => false) n = 0 := by
  intro n
  induction n with
  | zero => rfl
  | succ n ih => rw [rl_or_f (by decide)]; exact ih
section
variable {n c m : Nat} {iv ct st sd rc si ri : Nat → Nat} {g : Nat → Nat → Nat}
variable {vX IV U CT NB SV ST SD RC PL SI RI LN ND SE : Nat → Int32}
theorem rl_rb_ext {x y : Nat → Nat} {e : Nat} (h1 : x (sd e) = y (sd e)) (h2 : x (rc e) = y (rc e)) : rl_rb st sd rc si ri x e = rl_rb st sd rc si ri y e := by
  unfold rl_rb
  rw [h1, h2]
theorem rl_rb_le {x : Nat → Nat} {e : Nat} (h : st e ≤ 2) : rl_rb st sd rc si ri x e ≤ 2 := by
  unfold rl_rb
  split
  · omega
  · split
    · split <;> omega
    · omega
theorem rq_A_recover (hA : rl_A n c m iv ct g st sd rc si ri IV CT NB ST SD RC SI RI) {T : Int32} {L : Nat → Nat} (hL : rl_IsL n (rl_tp ct T) (rl_C m iv ct g st sd rc si ri) L) :
    rl_A n c m (fun p => if p < n ∧ L p < ct p then g p (L p) else iv p) (fun p => if p < n ∧ L p < ct p then L p + 1 else ct p) g
      (fun s => if s < m then rl_rb st sd rc si ri (fun p => rl_G ct g iv p (L p)) s else st s) sd rc si ri
      (rl_mix n (rl_nf (rl_rl ct L) (fun p => nI (g p (L p))) IV) IV) (rl_mix n (rl_nf (rl_rl ct L) (fun p => nI (L p + 1)) CT) CT) NB
      (rl_mix m (fun s => nI (rl_rb st sd rc si ri (fun p => rl_G ct g iv p (L p)) s)) ST) SD RC SI RI := by
  have hA' := hA
  obtain ⟨hW, hIV, hCT, hNB, hST, hSD, hRC, hSI, hRI⟩ := hA'
  have hW' := hW
  obtain ⟨⟨⟨n2, n4⟩, ⟨c3h, c8⟩, ⟨m4, m16⟩⟩, hS, hM, hB⟩ := hW'
  have hrl : ∀ p, rl_rl ct L p = true ↔ L p < ct p := fun p => decide_eq_true_iff
  have hW2 := rl_W_recover hW hL (iv' := fun p => if p < n ∧ L p < ct p then g p (L p) else iv p) (ct' := fun p => if p < n ∧ L p < ct p then L p + 1 else ct p)
    (st' := fun s => if s < m then rl_rb st sd rc si ri (fun p => rl_G ct g iv p (L p)) s else st s)
    (fun p hp => ⟨fun h => ⟨if_pos ⟨hp, h⟩, if_pos ⟨hp, h⟩⟩, fun h => ⟨if_neg (fun z => h z.2), if_neg (fun z => h z.2)⟩⟩)
    (fun s => by
      have h1 := (hM.1 s).1
      have h2 : rl_rb st sd rc si ri (fun p => rl_G ct g iv p (L p)) s ≤ 2 := rl_rb_le h1
      show (if s < m then rl_rb st sd rc si ri (fun p => rl_G ct g iv p (L p)) s else st s) ≤ 2
      split <;> omega)
    (fun s hs h => by
      have h' : (if s < m then rl_rb st sd rc si ri (fun p => rl_G ct g iv p (L p)) s else st s) = 2 := h
      rw [if_pos hs] at h'
      exact rl_rb_2 h')
  refine ⟨hW2, fun p => ?_, fun p => ?_, fun p hp k hk => ?_, fun s => ?_, hSD, hRC, hSI, hRI⟩
  · rw [rl_mn]
    by_cases h : p < n ∧ L p < ct p
    · rw [if_pos ⟨h.1, (hrl p).mpr h.2⟩]
      show _ = nI (if p < n ∧ L p < ct p then g p (L p) else iv p)
      rw [if_pos h]
    · rw [if_neg (fun z => h ⟨z.1, (hrl p).mp z.2⟩)]
      show _ = nI (if p < n ∧ L p < ct p then g p (L p) else iv p)
      rw [if_neg h]
      exact hIV p
  · rw [rl_mn]
    by_cases h : p < n ∧ L p < ct p
    · rw [if_pos ⟨h.1, (hrl p).mpr h.2⟩]
      show _ = nI (if p < n ∧ L p < ct p then L p + 1 else ct p)
      rw [if_pos h]
    · rw [if_neg (fun z => h ⟨z.1, (hrl p).mp z.2⟩)]
      show _ = nI (if p < n ∧ L p < ct p then L p + 1 else ct p)
      rw [if_neg h]
      exact hCT p
  · refine hNB p hp k ?_
    have hk' : k < if p < n ∧ L p < ct p then L p + 1 else ct p := hk
    by_cases h : p < n ∧ L p < ct p
    · rw [if_pos h] at hk'; omega
    · rw [if_neg h] at hk'; exact hk'
  · show _ = nI (if s < m then rl_rb st sd rc si ri (fun p => rl_G ct g iv p (L p)) s else st s)
    by_cases h : s < m
    · rw [rl_mix_lt h, if_pos h]
    · rw [rl_mix_ge (by omega), if_neg h]; exact hST s
end
section
variable {n c m : Nat} {iv ct st sd rc si ri : Nat → Nat} {g : Nat → Nat → Nat}
variable {vX IV U CT NB SV ST SD RC PL SI RI LN ND SE : Nat → Int32}
variable {post : Int32 → Prop} {L kc ks kk : Nat} {xs : Nat → Int32} {x1 dn : Int32} {zI zS zW zN zR a1 a2 a3 b0 b2 b3 c0 c1 c3 d0 d1 d2 : Int64} {H : Nat → Nat → Nat → Nat}
theorem rq_R_topD (hR : rq_R n c m iv ct g st sd rc si ri H zI zS zW zN zR a1 a2 a3 b0 b2 b3 c0 c1 c3 d0 d1 d2 dn IV U CT NB ST SD RC SI RI) : rq_top n iv (fun p => bt dn p) = rq_top n iv (rl_dn U) := by
  funext p
  unfold rq_top
  by_cases a : p < n
  · rw [if_pos a, if_pos a]
    show (if bt dn p = true then iv p else iv p + 1) = _
    rw [hR.2.2.2.2.2.2.2 p a]
  · rw [if_neg a, if_neg a]
theorem lq_recfin {J : Int64 → Int64 → Int64 → Int64 → Int64 → Int64 → Int64 → Int64 → Int64 → Int64 → Int64 → Int64 → Int64 → Int64 → Int64 → Int64 → Int64 → Int32 → Int32 → Int32 → Int32 → Int32 → (Nat → Int32) → (Nat → Int32) → (Nat → Int32) → (Nat → Int32) → (Nat → Int32) → (Nat → Int32) → (Nat → Int32) → (Nat → Int32) → (Nat → Int32) → (Nat → Int32) → (Nat → Int32) → (Nat → Int32) → (Nat → Int32) → (Nat → Int32) → (Nat → Int32) → Prop} (hJ : rq_J n c m kk J) (hL : L ≤ 260) (hkk : kk ≤ 1000) (hR : rq_R n c m iv ct g st sd rc si ri H zI zS zW zN zR a1 a2 a3 b0 b2 b3 c0 c1 c3 d0 d1 d2 dn IV U CT NB ST SD RC SI RI) {M : Nat → Nat} (hMM : rl_IsL 4 (rq_top n iv (rl_dn U)) (rq_C H) M) {yI yS y1 y2 y3 y4 y5 y6 y7 y8 y9 y10 y11 y12 : Int64}
    (h1 : ∀ p, p < 4 → nk_v yI p = if p < n ∧ M p ≤ iv p then M p else if p < n then iv p else 0) (h2 : ∀ e, e < m → nk_v yS e = rl_rb st sd rc si ri M e)
    (h3 : rq_Hs (fun r s j => if j < M r then H r s j else 0) y1 y2 y3 y4 y5 y6 y7 y8 y9 y10 y11 y12) {post2 : Int32 → St2 → Prop}
    (hp2 : ∀ vX IV U CT NB SV ST SD RC PL SI RI LN ND SE : Nat → Int32, (∃ fu, wL_law_1332 post L xs J x1 (nI n) (nI m) yI yS zW zN zR y1 y2 y3 y4 y5 y6 y7 y8 y9 y10 y11 y12 0 (nI kk) kc ks (nI n) (nI c) (nI m) vX IV U CT NB SV ST SD RC PL SI RI LN ND SE fu 0) → post2 (rl_or (fun p => decide (M p ≤ iv p)) n) (nI n, nI c, nI m, vX, IV, U, CT, NB, SV, ST, SD, RC, PL, SI, RI, LN, ND, SE)) :
    wpX_recover post2 (nI n, nI c, nI m, vX, IV, U, CT, NB, SV, ST, SD, RC, PL, SI, RI, LN, ND, SE) := by
  have hR' := hR
  obtain ⟨hA, hI, hH, hzI, hzS, hzW, hzR, hdn⟩ := hR'
  have hA' := hA
  obtain ⟨hW, hIV, hCT, hNB, hST, hSD, hRC, hSI, hRI⟩ := hA'
  have hW' := hW
  obtain ⟨⟨⟨n2, n4⟩, ⟨c3h, c8⟩, ⟨m4, m16⟩⟩, hS, hM, hB⟩ := hW'
  have hIc := hI
  obtain ⟨i1, i2, i3, i4, i5, i6⟩ := hIc
  obtain ⟨Lx, hLx⟩ := rl_exL hW (rl_or (rl_dn U) n)
  have hTX : ∀ q, q < n → (rl_dn U q = true ↔ ¬ (rl_or (rl_dn U) n &&& ((1 : Int32) <<< (nI q &&& 31))) = 0) := by
    intro q hq
    rw [bq_shl _ (by omega), bq_or _ (by omega) n (by omega)]
    cases rl_dn U q <;> simp [hq]
  have hEq := rq_eq hW hI (fun _ _ h => h) hTX hMM hLx
  have hrl : ∀ p, p < n → (fun p => decide (M p ≤ iv p)) p = rl_rl ct Lx p := by
    intro p hp
    have h := hEq p hp
    by_cases a : Lx p < ct p
    · rw [rl_G_in a] at h
      have := (hS p hp).2.2.2.1 _ a
      exact (decide_eq_true (by omega)).trans (decide_eq_true a).symm
    · rw [rl_G_now a] at h
      exact (decide_eq_false (by omega)).trans (decide_eq_false a).symm
  have hor := rl_or_ext n hrl
  refine rx_recover hA hLx (fun z => ?_) (fun z LN1 => ?_)
  · have hup : ∀ p, p < n → rl_dn U p = false := by
      intro p hp
      have h := bq_or (rl_dn U) (p := p) (by omega) n (by omega)
      rw [z, b_0] at h
      simpa [hp] using h.symm
    have hM1 : ∀ p, p < n → M p = iv p + 1 := by
      intro p hp
      have hC : rq_C H (rq_top n iv (rl_dn U)) := by
        intro r hr s hs hrs j hj
        by_cases y : H r s j = 0
        · omega
        · obtain ⟨b1, b2, b3, b4, b5⟩ := i2 r s j (by omega)
          rw [rq_top_f b2 (by rw [hup s b2]; decide)]
          exact b5
      have h5 := hMM.2.2 _ (fun q _ => Nat.le_refl _) hC p (by omega)
      have h6 := hMM.1 p (by omega)
      rw [rq_top_f hp (by rw [hup p hp]; decide)] at h5 h6
      omega
    have hw0 : rl_or (fun p => decide (M p ≤ iv p)) n = 0 := by
      rw [rl_or_ext (h := fun _ => false) n (fun p hp => decide_eq_false (by have := hM1 p hp; omega))]
      exact rl_or_0 n
    have := hp2 vX IV U CT NB SV ST SD RC PL SI RI LN ND SE (lq_go hJ hL hkk (iv := iv) (ct := ct) (g := g) (st := st) (sd := sd) (rc := rc) (si := si) (ri := ri) (H := H) ?_)
    · rw [hw0] at this
      exact this
    · refine ⟨hA, hI, fun j hj => ?_, fun p hp => ?_, fun e he => ?_, hzW, hzR, fun p hp => ?_⟩
      · have hk : ∀ r s, (if j < M r then H r s j else 0) = H r s j := by
          intro r s
          by_cases y : H r s j = 0
          · rw [y]; split <;> rfl
          · obtain ⟨b1, b2, b3, b4, b5⟩ := i2 r s j (by omega)
            have := hM1 r b1
            rw [if_pos (by omega)]
        have h4 := h3 j hj
        simp only [hk] at h4
        exact h4
      · rw [h1 p hp]
        by_cases a : p < n
        · rw [if_neg (fun y => by have := hM1 p a; omega)]
        · rw [if_neg (fun y => a y.1)]
      · obtain ⟨t1, t2, t3, t4, t5⟩ := hM.1 e
        rw [h2 e he]
        unfold rl_rb
        by_cases y : st e = 0
        · rw [if_pos y, y]
        · have g1 := (i3 e he y).2
          have g2 := hM1 _ t2
          rw [if_neg y, if_pos (by omega)]
          refine if_neg (fun w => w.2 ?_)
          have g3 := hM.2 e he w.1
          have g4 := hM1 _ t3
          omega
      · rw [b_0, hup p hp]
  · have := hp2 _ _ _ _ _ _ _ _ _ _ _ _ _ _ _ (lq_go (kc := kc) (ks := ks) (post := post) (xs := xs) (x1 := x1) (zW := zW) (zN := zN) (zR := zR) (LN := LN1) (ND := ND) (SE := SE) (PL := PL) (SV := SV) (vX := rl_mix n (rl_nf (rl_rl ct Lx) (fun p => SV (p * 8 + Lx p)) vX) vX) hJ hL hkk
      (H := fun r s j => if j < M r then H r s j else 0) (zI := yI) (zS := yS) (dn := 0) (U := rl_mix n (fun _ => 1) U)
      ⟨rq_A_recover hA hLx, rq_I_crash (rq_I_recover n4 hS hM hI hMM hEq) (fun _ _ w => absurd w (by decide)), h3, fun p hp => ?_, fun e he => ?_, fun e he y => ?_, fun e he y => ?_, fun p hp => ?_⟩)
    · rw [hor] at this
      exact this
    · rw [h1 p hp]
      show _ = if p < n then (if p < n ∧ Lx p < ct p then g p (Lx p) else iv p) else 0
      by_cases a : p < n
      · simp only [a, true_and, if_true]
        have h := hEq p a
        by_cases b : Lx p < ct p
        · rw [rl_G_in b] at h
          have := (hS p a).2.2.2.1 _ b
          rw [if_pos (show M p ≤ iv p by omega), if_pos b, h]
        · rw [rl_G_now b] at h
          rw [if_neg (show ¬ M p ≤ iv p by omega), if_neg b]
      · rw [if_neg (fun y => a y.1), if_neg a, if_neg a]
    · obtain ⟨t1, t2, t3, t4, t5⟩ := hM.1 e
      show nk_v yS e = if e < m then rl_rb st sd rc si ri (fun p => rl_G ct g iv p (Lx p)) e else st e
      rw [if_pos he, h2 e he]
      exact rl_rb_ext (hEq _ t2) (hEq _ t3)
    · have y' : ¬ (if e < m then rl_rb st sd rc si ri (fun p => rl_G ct g iv p (Lx p)) e else st e) = 0 := y
      rw [if_pos he] at y'
      exact hzW e he (rl_rb_0 y').1
    · have y' : (if e < m then rl_rb st sd rc si ri (fun p => rl_G ct g iv p (Lx p)) e else st e) = 2 := y
      rw [if_pos he] at y'
      exact hzR e he (rl_rb_2 y').1
    · rw [b_0]
      unfold rl_dn
      rw [rl_mix_lt hp]
      decide
theorem lq_943 {J : Int64 → Int64 → Int64 → Int64 → Int64 → Int64 → Int64 → Int64 → Int64 → Int64 → Int64 → Int64 → Int64 → Int64 → Int64 → Int64 → Int64 → Int32 → Int32 → Int32 → Int32 → Int32 → (Nat → Int32) → (Nat → Int32) → (Nat → Int32) → (Nat → Int32) → (Nat → Int32) → (Nat → Int32) → (Nat → Int32) → (Nat → Int32) → (Nat → Int32) → (Nat → Int32) → (Nat → Int32) → (Nat → Int32) → (Nat → Int32) → (Nat → Int32) → (Nat → Int32) → Prop} (hJ : rq_J n c m kk J) (hL : L ≤ 260) (hkk : kk ≤ 1000) (hR : rq_R n c m iv ct g st sd rc si ri H zI zS zW zN zR a1 a2 a3 b0 b2 b3 c0 c1 c3 d0 d1 d2 dn IV U CT NB ST SD RC SI RI) {M : Nat → Nat} (hMM : rl_IsL 4 (rq_top n iv (rl_dn U)) (rq_C H) M) {z yS : Int64} (hz : ∀ p, p < 4 → nk_v z p = M p)
    (h2 : ∀ e, e < m → nk_v yS e = rl_rb st sd rc si ri M e) :
    ∀ (fu i : Nat) (yI : Int64), n < fu + i → i ≤ n → (∀ p, p < 4 → nk_v yI p = if p < i ∧ M p ≤ iv p then M p else if p < n then iv p else 0) →
      wL_law_943 post L xs J x1 (nI n) (nI m) yS zW zN zR a1 a2 a3 b0 b2 b3 c0 c1 c3 d0 d1 d2 (nI kk) z kc ks (nI n) (nI c) (nI m) vX IV U CT NB SV ST SD RC PL SI RI LN ND SE fu yI (rl_or (fun p => decide (M p ≤ iv p)) i) (nI i) := by
  have n4 := hR.1.1.1.1.2
  have hM16 : ∀ p, p < 4 → M p < 16 := fun p hp => by rw [← hz p hp]; exact nk_lt z p
  have hH := hR.2.2.1
  intro fu
  induction fu with
  | zero => intro i yI q1 q2; omega
  | succ fu ih =>
    intro i yI q1 q2 q3
    rw [wL_law_943]
    by_cases e : n ≤ i
    · have e2 : i = n := by omega
      refine br_t (nI_le e (by omega)) ?_
      refine wl_nib (i := 0) (by omega) ?_
      refine wl_nib (i := 1) (by omega) ?_
      refine wl_nib (i := 2) (by omega) ?_
      refine wl_nib (i := 3) (by omega) ?_
      rw [hz 0 (by omega), hz 1 (by omega), hz 2 (by omega), hz 3 (by omega)]
      have m0 := hM16 0 (by omega)
      have m1 := hM16 1 (by omega)
      have m2 := hM16 2 (by omega)
      have m3 := hM16 3 (by omega)
      refine wl_keep m0 (fun w1 r1 => ?_)
      refine wl_keep m0 (fun w2 r2 => ?_)
      refine wl_keep m0 (fun w3 r3 => ?_)
      refine wl_keep m1 (fun w4 r4 => ?_)
      refine wl_keep m1 (fun w5 r5 => ?_)
      refine wl_keep m1 (fun w6 r6 => ?_)
      refine wl_keep m2 (fun w7 r7 => ?_)
      refine wl_keep m2 (fun w8 r8 => ?_)
      refine wl_keep m2 (fun w9 r9 => ?_)
      refine wl_keep m3 (fun w10 r10 => ?_)
      refine wl_keep m3 (fun w11 r11 => ?_)
      refine wl_keep m3 (fun w12 r12 => ?_)
      rw [e2] at q3
      rw [e2]
      refine lq_recfin (kc := kc) (ks := ks) (post := post) (xs := xs) (x1 := x1) (zW := zW) (zN := zN) (zR := zR) (y1 := w1) (y2 := w2) (y3 := w3) (y4 := w4) (y5 := w5) (y6 := w6) (y7 := w7) (y8 := w8) (y9 := w9) (y10 := w10) (y11 := w11) (y12 := w12) hJ hL hkk hR hMM q3 h2 (fun j hj => ?_) (fun vX1 IV1 U1 CT1 NB1 SV1 ST1 SD1 RC1 PL1 SI1 RI1 LN1 ND1 SE1 hh => br_t rfl hh)
      obtain ⟨k1, k2, k3, k4, k5, k6, k7, k8, k9, k10, k11, k12⟩ := hH j hj
      refine ⟨?_, ?_, ?_, ?_, ?_, ?_, ?_, ?_, ?_, ?_, ?_, ?_⟩
      · rw [r1 j hj, k1]
      · rw [r2 j hj, k2]
      · rw [r3 j hj, k3]
      · rw [r4 j hj, k4]
      · rw [r5 j hj, k5]
      · rw [r6 j hj, k6]
      · rw [r7 j hj, k7]
      · rw [r8 j hj, k8]
      · rw [r9 j hj, k9]
      · rw [r10 j hj, k10]
      · rw [r11 j hj, k11]
      · rw [r12 j hj, k12]
    · have hMi := hM16 i (by omega)
      have hq := q3 i (by omega)
      rw [if_neg (fun y => by omega), if_pos (by omega)] at hq
      have h14 := hR.2.1.1 i (by omega)
      refine br_f (nI_ge (by omega) (by omega)) ?_
      refine wl_nib (by omega) ?_
      refine wl_nib (by omega) ?_
      rw [hz i (by omega), hq]
      by_cases a : iv i < M i
      · refine br_t (nI_lt a (by omega)) ?_
        refine nm_e ?_
        have := ih (i + 1) yI (by omega) (by omega) (fun p hp => ?_)
        · rw [rl_or_f (fun y => by have := of_decide_eq_true y; omega)] at this
          rw [nI_1]
          exact this
        · rw [q3 p hp]
          by_cases w : p = i
          · have n1 : ¬ (i < i ∧ M i ≤ iv i) := by omega
            have n2 : ¬ (i < i + 1 ∧ M i ≤ iv i) := by omega
            rw [w, if_neg n1, if_neg n2]
          · by_cases y : p < i ∧ M p ≤ iv p
            · have n2 : p < i + 1 ∧ M p ≤ iv p := ⟨by omega, y.2⟩
              rw [if_pos y, if_pos n2]
            · have n2 : ¬ (p < i + 1 ∧ M p ≤ iv p) := fun x => y ⟨by omega, x.2⟩
              rw [if_neg y, if_neg n2]
      · refine br_f (nI_nlt (by omega) (by omega)) ?_
        refine nm_e ?_
        refine wl_nib (by omega) ?_
        rw [hz i (by omega)]
        refine wl_set (by omega) hMi (fun w hw => ?_)
        refine nm_e ?_
        have := ih (i + 1) w (by omega) (by omega) (fun p hp => ?_)
        · rw [rl_or_t (decide_eq_true (by omega))] at this
          rw [nI_1]
          exact this
        · rw [hw p (by omega)]
          by_cases x : p = i
          · rw [if_pos x, x, if_pos ⟨by omega, by omega⟩]
          · rw [if_neg x, q3 p hp]
            by_cases y : p < i ∧ M p ≤ iv p
            · have n2 : p < i + 1 ∧ M p ≤ iv p := ⟨by omega, y.2⟩
              rw [if_pos y, if_pos n2]
            · have n2 : ¬ (p < i + 1 ∧ M p ≤ iv p) := fun x => y ⟨by omega, x.2⟩
              rw [if_neg y, if_neg n2]
theorem lq_838 {J : Int64 → Int64 → Int64 → Int64 → Int64 → Int64 → Int64 → Int64 → Int64 → Int64 → Int64 → Int64 → Int64 → Int64 → Int64 → Int64 → Int64 → Int32 → Int32 → Int32 → Int32 → Int32 → (Nat → Int32) → (Nat → Int32) → (Nat → Int32) → (Nat → Int32) → (Nat → Int32) → (Nat → Int32) → (Nat → Int32) → (Nat → Int32) → (Nat → Int32) → (Nat → Int32) → (Nat → Int32) → (Nat → Int32) → (Nat → Int32) → (Nat → Int32) → (Nat → Int32) → Prop} (hJ : rq_J n c m kk J) (hL : L ≤ 260) (hkk : kk ≤ 1000) (hR : rq_R n c m iv ct g st sd rc si ri H zI zS zW zN zR a1 a2 a3 b0 b2 b3 c0 c1 c3 d0 d1 d2 dn IV U CT NB ST SD RC SI RI) {M : Nat → Nat} (hMM : rl_IsL 4 (rq_top n iv (rl_dn U)) (rq_C H) M) {z : Int64} (hz : ∀ p, p < 4 → nk_v z p = M p) :
    ∀ (fu e : Nat) (yS : Int64), m < fu + e → e ≤ m → (∀ f, f < m → nk_v yS f = if f < e then rl_rb st sd rc si ri M f else st f) →
      wL_law_838 post L xs J x1 (nI n) (nI m) zI zW zN zR a1 a2 a3 b0 b2 b3 c0 c1 c3 d0 d1 d2 (nI kk) z 0 kc ks (nI n) (nI c) (nI m) vX IV U CT NB SV ST SD RC PL SI RI LN ND SE fu yS (nI e) := by
  have hR' := hR
  obtain ⟨hA, hI, hH, hzI, hzS, hzW, hzR, hdn⟩ := hR'
  have hA' := hA
  obtain ⟨hW, hIV, hCT, hNB, hST, hSD, hRC, hSI, hRI⟩ := hA'
  have hW' := hW
  obtain ⟨⟨⟨n2, n4⟩, ⟨c3h, c8⟩, ⟨m4, m16⟩⟩, hS, hM, hB⟩ := hW'
  have hM16 : ∀ p, p < 4 → M p < 16 := fun p hp => by rw [← hz p hp]; exact nk_lt z p
  intro fu
  induction fu with
  | zero => intro e yS q1 q2; omega
  | succ fu ih =>
    intro e yS q1 q2 q3
    rw [wL_law_838]
    by_cases a : m ≤ e
    · refine br_t (nI_le a (by omega)) ?_
      refine ⟨n + 1, lq_943 hJ hL hkk hR hMM hz (fun f hf => by rw [q3 f hf, if_pos (by omega)]) (n + 1) 0 zI (by omega) (by omega) (fun p hp => ?_)⟩
      rw [if_neg (fun y => by omega)]
      exact hzI p hp
    · have he : e < m := by omega
      obtain ⟨t1, t2, t3, t4, t5⟩ := hM.1 e
      have hq := q3 e he
      rw [if_neg (by omega)] at hq
      have nxk : rl_rb st sd rc si ri M e = st e → wL_law_838 post L xs J x1 (nI n) (nI m) zI zW zN zR a1 a2 a3 b0 b2 b3 c0 c1 c3 d0 d1 d2 (nI kk) z 0 kc ks (nI n) (nI c) (nI m) vX IV U CT NB SV ST SD RC PL SI RI LN ND SE fu yS (nI e + 1) := by
        intro y
        rw [nI_1]
        refine ih (e + 1) yS (by omega) (by omega) (fun f hf => ?_)
        rw [q3 f hf]
        by_cases w : f = e
        · rw [w, if_neg (by omega), if_pos (by omega), y]
        · by_cases l : f < e
          · rw [if_pos l, if_pos (by omega)]
          · rw [if_neg l, if_neg (by omega)]
      have nxs : ∀ w, (∀ j, j < 16 → nk_v w j = if j = e then rl_rb st sd rc si ri M e else nk_v yS j) → wL_law_838 post L xs J x1 (nI n) (nI m) zI zW zN zR a1 a2 a3 b0 b2 b3 c0 c1 c3 d0 d1 d2 (nI kk) z 0 kc ks (nI n) (nI c) (nI m) vX IV U CT NB SV ST SD RC PL SI RI LN ND SE fu w (nI e + 1) := by
        intro w hw
        rw [nI_1]
        refine ih (e + 1) w (by omega) (by omega) (fun f hf => ?_)
        rw [hw f (by omega)]
        by_cases x : f = e
        · rw [if_pos x, x, if_pos (by omega)]
        · rw [if_neg x, q3 f hf]
          by_cases l : f < e
          · rw [if_pos l, if_pos (by omega)]
          · rw [if_neg l, if_neg (by omega)]
      refine br_f (nI_ge (by omega) (by omega)) ?_
      refine wl_nib (by omega) ?_
      refine wl_nib (by omega) ?_
      rw [hq]
      by_cases s0 : st e = 0
      · refine br_t (by rw [s0]; rfl) ?_
        unfold wL_law_899
        refine br_f (fun y => absurd ((rl_eq2 (by omega)).mp y) (by omega)) ?_
        exact nm_e (nxk (by unfold rl_rb; rw [if_pos s0, s0]))
      · obtain ⟨w1, w2⟩ := hzW e he s0
        rw [w1]
        have e1 : nI (sd e + 4 * rc e) >>> ((2 : Int32) &&& 31) = nI (rc e) := by
          rw [pk_shrN (by omega) _ 2 (by decide)]
          congr 1
          omega
        have e2 : nI (sd e + 4 * rc e) &&& 3 = nI (sd e) := by
          rw [pk_andN (by omega) 2 (by decide)]
          congr 1
          omega
        have mS := hM16 (sd e) (by omega)
        have mR := hM16 (rc e) (by omega)
        refine br_f (fun y => s0 ((rl_eq0 (by omega)).mp y)) ?_
        refine wl_nib (by omega) ?_
        rw [e2]
        refine wl_nib (by omega) ?_
        rw [w2, hz _ (by omega)]
        by_cases b : si e < M (sd e)
        · refine br_t (nI_lt b (by omega)) ?_
          unfold wL_law_899
          by_cases s2 : st e = 2
          · refine br_t (by rw [s2]; rfl) ?_
            refine wl_nib (by omega) ?_
            rw [e1]
            refine wl_nib (by omega) ?_
            rw [hzR e he s2, hz _ (by omega)]
            by_cases d : ri e < M (rc e)
            · refine br_t (nI_lt d (by omega)) ?_
              exact nm_e (nxk (by unfold rl_rb; rw [if_neg s0, if_pos b, if_neg (fun y => y.2 d)]))
            · refine br_f (nI_nlt (by omega) (by omega)) ?_
              have hv : rl_rb st sd rc si ri M e = 1 := by unfold rl_rb; rw [if_neg s0, if_pos b, if_pos ⟨s2, d⟩]
              refine wl_set (v := 1) (by omega) (by omega) (fun w hw => ?_)
              exact nm_e (nxs w (by rw [hv]; exact hw))
          · refine br_f (fun y => s2 ((rl_eq2 (by omega)).mp y)) ?_
            exact nm_e (nxk (by unfold rl_rb; rw [if_neg s0, if_pos b, if_neg (fun y => s2 y.1)]))
        · refine br_f (nI_nlt (by omega) (by omega)) ?_
          have hv : rl_rb st sd rc si ri M e = 0 := by unfold rl_rb; rw [if_neg s0, if_neg b]
          refine wl_set (v := 0) (by omega) (by omega) (fun w hw => ?_)
          exact nm_e (nxs w (by rw [hv]; exact hw))
end
end
section
section
variable {n c m : Nat} {iv ct st sd rc si ri : Nat → Nat} {g : Nat → Nat → Nat}
variable {vX IV U CT NB SV ST SD RC PL SI RI LN ND SE : Nat → Int32}
theorem rq_A_reclaim (hA : rl_A n c m iv ct g st sd rc si ri IV CT NB ST SD RC SI RI) {Ls : Int32 → Nat → Nat} (hL : ∀ T, rl_IsL n (rl_tp ct T) (rl_C m iv ct g st sd rc si ri) (Ls T)) {NB' : Nat → Int32} {f : Nat → Nat → Nat}
    (r1 : ∀ p, p < n → ∀ k, k < ct p → (¬ ND (p * 8 + k) = 0 ↔ rl_Nd (rl_or (rl_dn U) n) Ls (2 ^ n) p k))
    (r3 : ∀ p, p < n → rl_Sub (rl_nd ND p) (ct p) (rl_cn (rl_nd ND p) (ct p)) (f p))
    (r4 : ∀ p, p < n → ∀ j, j < rl_cn (rl_nd ND p) (ct p) → NB' (p * 8 + j) = NB (p * 8 + f p j)) :
    rl_A n c m iv (fun p => if p < n then rl_cn (rl_nd ND p) (ct p) else ct p) (fun p j => g p (f p j)) (fun s => if s < m ∧ ¬ SE s = 0 then 0 else st s) sd rc si ri IV
      (rl_mix n (fun q => nI (rl_cn (rl_nd ND q) (ct q))) CT) NB' (rl_mix m (rl_cl SE ST) ST) SD RC SI RI := by
  have hA' := hA
  obtain ⟨hW, hIV, hCT, hNB, hST, hSD, hRC, hSI, hRI⟩ := hA'
  have hW' := hW
  obtain ⟨⟨⟨n2, n4⟩, ⟨c3h, c8⟩, ⟨m4, m16⟩⟩, hS, hM, hB⟩ := hW'
  have h16 := rl_16 n4
  have hnd : ∀ p k, rl_nd ND p k = true ↔ ¬ ND (p * 8 + k) = 0 := fun p k => decide_eq_true_iff
  have hall : ∀ p, p < n → Ls (nI (2 ^ n - 1)) p < ct p := by
    intro p hp
    have h1 := (hL (nI (2 ^ n - 1))).1 p hp
    have ht : rl_tp ct (nI (2 ^ n - 1)) p = ct p - 1 := if_neg (rl_allp n2 n4 hp)
    have h2 := (hS p hp).1
    omega
  have hpos : 0 < 2 ^ n := Nat.pow_pos (by omega)
  have hW2 := rl_W_reclaim hW (hL (nI (2 ^ n - 1))) hall (ct' := fun p => if p < n then rl_cn (rl_nd ND p) (ct p) else ct p) (g' := fun p j => g p (f p j)) (f := f)
    (fun p hp => by show (if p < n then rl_cn (rl_nd ND p) (ct p) else ct p) ≤ ct p; rw [if_pos hp]; exact rl_cn_le _ _)
    (fun p hp j hj => by
      have hj' : j < if p < n then rl_cn (rl_nd ND p) (ct p) else ct p := hj
      rw [if_pos hp] at hj'
      exact ⟨((r3 p hp).1 j hj').1, rfl⟩)
    (fun p hp i j hij hj => by
      have hj' : j < if p < n then rl_cn (rl_nd ND p) (ct p) else ct p := hj
      rw [if_pos hp] at hj'
      exact (r3 p hp).2.1 i j hij hj')
    (fun p hp => by
      show ∃ j, j < (if p < n then rl_cn (rl_nd ND p) (ct p) else ct p) ∧ f p j = Ls (nI (2 ^ n - 1)) p
      rw [if_pos hp]
      refine (r3 p hp).2.2.1 _ (hall p hp) ((hnd p _).mpr ((r1 p hp _ (hall p hp)).mpr ?_))
      exact ⟨2 ^ n - 1, by omega, rl_all (rl_dn U) n2 n4, rfl⟩)
  have hW3 := rl_W_drop hW2 (st' := fun s => if s < m ∧ ¬ SE s = 0 then 0 else st s) (fun s => by
    show (if s < m ∧ ¬ SE s = 0 then 0 else st s) = st s ∨ (if s < m ∧ ¬ SE s = 0 then 0 else st s) = 0
    split
    · exact Or.inr rfl
    · exact Or.inl rfl)
  refine ⟨hW3, hIV, fun p => ?_, fun p hp k hk => ?_, fun s => ?_, hSD, hRC, hSI, hRI⟩
  · show _ = nI (if p < n then rl_cn (rl_nd ND p) (ct p) else ct p)
    by_cases h : p < n
    · rw [rl_mix_lt h, if_pos h]
    · rw [rl_mix_ge (by omega), if_neg h]; exact hCT p
  · have hk' : k < if p < n then rl_cn (rl_nd ND p) (ct p) else ct p := hk
    rw [if_pos hp] at hk'
    rw [r4 p hp k hk']
    exact hNB p hp _ ((r3 p hp).1 k hk').1
  · show _ = nI (if s < m ∧ ¬ SE s = 0 then 0 else st s)
    by_cases h : s < m
    · rw [rl_mix_lt h]
      unfold rl_cl
      by_cases a : SE s = 0
      · rw [if_pos a, if_neg (fun z => z.2 a)]; exact hST s
      · rw [if_neg a, if_pos ⟨h, a⟩]; rfl
    · rw [rl_mix_ge (by omega), if_neg (fun z => h z.1)]; exact hST s
end
section
variable {n c m : Nat} {iv ct st sd rc si ri : Nat → Nat} {g : Nat → Nat → Nat}
variable {vX IV U CT NB SV ST SD RC PL SI RI LN ND SE : Nat → Int32}
variable {post : Int32 → Prop} {L kc ks kk : Nat} {xs : Nat → Int32} {x1 dn : Int32} {zI zS zW zN zR a1 a2 a3 b0 b2 b3 c0 c1 c3 d0 d1 d2 : Int64} {H : Nat → Nat → Nat → Nat}
theorem lq_1201 {J : Int64 → Int64 → Int64 → Int64 → Int64 → Int64 → Int64 → Int64 → Int64 → Int64 → Int64 → Int64 → Int64 → Int64 → Int64 → Int64 → Int64 → Int32 → Int32 → Int32 → Int32 → Int32 → (Nat → Int32) → (Nat → Int32) → (Nat → Int32) → (Nat → Int32) → (Nat → Int32) → (Nat → Int32) → (Nat → Int32) → (Nat → Int32) → (Nat → Int32) → (Nat → Int32) → (Nat → Int32) → (Nat → Int32) → (Nat → Int32) → (Nat → Int32) → (Nat → Int32) → Prop} (hJ : rq_J n c m kk J) (hL : L ≤ 260) (hkk : kk ≤ 1000) (m16 : m ≤ 16) {st' : Nat → Nat} {M : Nat → Nat} {z : Int64} (n4 : n ≤ 4) (hz : ∀ p, p < 4 → nk_v z p = M p) (hrc : ∀ e, e < m → sd e < n ∧ rc e < n ∧ st e ≤ 2)
    (hzW : ∀ e, e < m → ¬ st e = 0 → nk_v zW e = sd e + 4 * rc e ∧ nk_v zN e = si e) (hzR : ∀ e, e < m → st e = 2 → nk_v zR e = ri e) (hST : ∀ s, ST s = nI (st' s))
    (hst : ∀ e, e < m → st' e = st e ∨ (st' e = 0 ∧ st e = 2 ∧ ri e < M (rc e)))
    (hfin : ∀ yS, (∀ e, e < m → nk_v yS e = st' e) → ∃ fu, wL_law_1332 post L xs J x1 (nI n) (nI m) zI yS zW zN zR a1 a2 a3 b0 b2 b3 c0 c1 c3 d0 d1 d2 dn (nI kk) kc ks (nI n) (nI c) (nI m) vX IV U CT NB SV ST SD RC PL SI RI LN ND SE fu 0) :
    ∀ (fu e : Nat) (yS : Int64), m < fu + e → e ≤ m → (∀ f, f < m → nk_v yS f = if f < e then st' f else st f) →
      wL_law_1201 post L xs J x1 (nI n) (nI m) zI zW zN zR a1 a2 a3 b0 b2 b3 c0 c1 c3 d0 d1 d2 dn (nI kk) z kc ks (nI n) (nI c) (nI m) vX IV U CT NB SV ST SD RC PL SI RI LN ND SE fu yS (nI e) := by
  have hM16 : ∀ p, p < 4 → M p < 16 := fun p hp => by rw [← hz p hp]; exact nk_lt z p
  intro fu
  induction fu with
  | zero => intro e yS q1 q2; omega
  | succ fu ih =>
    intro e yS q1 q2 q3
    rw [wL_law_1201]
    by_cases a : m ≤ e
    · refine br_t (nI_le a (by omega)) ?_
      exact hfin yS (fun f hf => by rw [q3 f hf, if_pos (by omega)])
    · have he : e < m := by omega
      obtain ⟨t2, t3, t1⟩ := hrc e he
      have hq := q3 e he
      rw [if_neg (by omega)] at hq
      have nxk : st' e = st e → wL_law_1201 post L xs J x1 (nI n) (nI m) zI zW zN zR a1 a2 a3 b0 b2 b3 c0 c1 c3 d0 d1 d2 dn (nI kk) z kc ks (nI n) (nI c) (nI m) vX IV U CT NB SV ST SD RC PL SI RI LN ND SE fu yS (nI e + 1) := by
        intro y
        rw [nI_1]
        refine ih (e + 1) yS (by omega) (by omega) (fun f hf => ?_)
        rw [q3 f hf]
        by_cases w : f = e
        · rw [w, if_neg (by omega), if_pos (by omega), y]
        · by_cases l : f < e
          · rw [if_pos l, if_pos (by omega)]
          · rw [if_neg l, if_neg (by omega)]
      refine br_f (nI_ge (by omega) (by omega)) ?_
      refine wl_nib (by omega) ?_
      rw [hq]
      by_cases s0 : st e = 0
      · refine br_t (by rw [s0]; rfl) ?_
        refine nm_e (nxk ?_)
        rcases hst e he with y | y
        · exact y
        · omega
      · refine br_f (fun y => s0 ((rl_eq0 (by omega)).mp y)) ?_
        refine rx_msg0 (st := st') he m16 (hST e) ?_
        rcases hst e he with y | ⟨y1, y2, y3⟩
        · refine br_f (fun w => s0 (by rw [← y]; exact (rl_eq0 (by omega)).mp w)) ?_
          exact nm_e (nxk y)
        · refine br_t (by rw [y1]; rfl) ?_
          refine wl_nib (by omega) ?_
          rw [hq]
          refine br_t (by rw [y2]; rfl) ?_
          refine wl_nib (by omega) ?_
          refine wl_nib (by omega) ?_
          rw [hzR e he y2, (hzW e he s0).1]
          have e1 : nI (sd e + 4 * rc e) >>> ((2 : Int32) &&& 31) = nI (rc e) := by
            rw [pk_shrN (by omega) _ 2 (by decide)]
            congr 1
            omega
          rw [e1]
          refine wl_nib (by omega) ?_
          rw [hz _ (by omega)]
          have mR := hM16 (rc e) (by omega)
          refine br_t (nI_lt y3 (by omega)) ?_
          refine wl_set (v := 0) (by omega) (by omega) (fun w hw => ?_)
          refine nm_e ?_
          rw [nI_1]
          refine ih (e + 1) w (by omega) (by omega) (fun f hf => ?_)
          rw [hw f (by omega)]
          by_cases x : f = e
          · rw [if_pos x, x, if_pos (by omega), y1]
          · rw [if_neg x, q3 f hf]
            by_cases l : f < e
            · rw [if_pos l, if_pos (by omega)]
            · rw [if_neg l, if_neg (by omega)]
theorem lq_reclaim {J : Int64 → Int64 → Int64 → Int64 → Int64 → Int64 → Int64 → Int64 → Int64 → Int64 → Int64 → Int64 → Int64 → Int64 → Int64 → Int64 → Int64 → Int32 → Int32 → Int32 → Int32 → Int32 → (Nat → Int32) → (Nat → Int32) → (Nat → Int32) → (Nat → Int32) → (Nat → Int32) → (Nat → Int32) → (Nat → Int32) → (Nat → Int32) → (Nat → Int32) → (Nat → Int32) → (Nat → Int32) → (Nat → Int32) → (Nat → Int32) → (Nat → Int32) → (Nat → Int32) → Prop} (hJ : rq_J n c m kk J) (hL : L ≤ 260) (hkk : kk ≤ 1000) (hR : rq_R n c m iv ct g st sd rc si ri H zI zS zW zN zR a1 a2 a3 b0 b2 b3 c0 c1 c3 d0 d1 d2 dn IV U CT NB ST SD RC SI RI) {M : Nat → Nat} (hMM : rl_IsL 4 (rq_top n iv (fun _ => true)) (rq_C H) M) {z : Int64} (hz : ∀ p, p < 4 → nk_v z p = M p) {post2 : Int32 → St2 → Prop}
    (hp2 : ∀ (r : Int32) (vX IV U CT NB SV ST SD RC PL SI RI LN ND SE : Nat → Int32), (∃ fu, wL_law_1201 post L xs J x1 (nI n) (nI m) zI zW zN zR a1 a2 a3 b0 b2 b3 c0 c1 c3 d0 d1 d2 dn (nI kk) z kc ks (nI n) (nI c) (nI m) vX IV U CT NB SV ST SD RC PL SI RI LN ND SE fu zS 0) → post2 r (nI n, nI c, nI m, vX, IV, U, CT, NB, SV, ST, SD, RC, PL, SI, RI, LN, ND, SE)) : wpX_reclaim post2 (nI n, nI c, nI m, vX, IV, U, CT, NB, SV, ST, SD, RC, PL, SI, RI, LN, ND, SE) := by
  have hR' := hR
  obtain ⟨hA, hI, hH, hzI, hzS, hzW, hzR, hdn⟩ := hR'
  have hA' := hA
  obtain ⟨hW, hIV, hCT, hNB, hST, hSD, hRC, hSI, hRI⟩ := hA'
  have hW' := hW
  obtain ⟨⟨⟨n2, n4⟩, ⟨c3h, c8⟩, ⟨m4, m16⟩⟩, hS, hM, hB⟩ := hW'
  have h16 := rl_16 n4
  have hpos : 0 < 2 ^ n := Nat.pow_pos (by omega)
  obtain ⟨Ls, hLs⟩ := Classical.axiomOfChoice (rl_exL hW)
  refine rx_reclaim hA hLs (fun LN1 ND1 SE1 NB1 SV1 f r1 r2 r3 r4 => ?_)
  refine hp2 _ _ _ _ _ _ _ _ _ _ _ _ _ _ _ _ ?_
  have hnd : ∀ p k, rl_nd ND1 p k = true ↔ ¬ ND1 (p * 8 + k) = 0 := fun p k => decide_eq_true_iff
  have hA2 := rq_A_reclaim (SE := SE1) hA hLs r1 r3 (fun p hp j hj => (r4 p hp j hj).1)
  have hst : ∀ e, (if e < m ∧ ¬ SE1 e = 0 then 0 else st e) = st e ∨ ((if e < m ∧ ¬ SE1 e = 0 then 0 else st e) = 0 ∧ st e = 2 ∧ ∀ M, rl_IsL 4 (rq_top n iv (fun _ => true)) (rq_C H) M → ri e < M (rc e)) := by
    intro e
    by_cases a : e < m ∧ ¬ SE1 e = 0
    · have hs := (r2 e a.1).mp a.2
      refine Or.inr ⟨if_pos a, hs.1, fun M' hM' => ?_⟩
      have h1 := hs.2 (2 ^ n - 1) (by omega) (rl_all (rl_dn U) n2 n4)
      have h2 := rq_eq hW hI (T := fun _ => true) (fun _ _ _ => rfl) (TX := nI (2 ^ n - 1)) (fun q hq => ⟨fun _ => rl_allp n2 n4 hq, fun _ => rfl⟩) hM' (hLs _) (rc e) (hM.1 e).2.2.1
      rw [h2]
      exact h1
    · exact Or.inl (if_neg a)
  have hI2 := rq_I_reclaim n4 hM hI (ct' := fun p => if p < n then rl_cn (rl_nd ND1 p) (ct p) else ct p) (g' := fun p j => g p (f p j)) (st' := fun s => if s < m ∧ ¬ SE1 s = 0 then 0 else st s)
    (fun T hT M' hM' p hp k hk ek => by
      obtain ⟨j, hj, ej⟩ := rl_orN T n2 n4
      have hTX : ∀ q, q < n → (T q = true ↔ ¬ (rl_or T n &&& ((1 : Int32) <<< (nI q &&& 31))) = 0) := by
        intro q hq
        rw [bq_shl _ (by omega), bq_or _ (by omega) n (by omega)]
        cases T q <;> simp [hq]
      have h2 := rq_eq hW hI hT hTX hM' (hLs _) p hp
      have hLe : Ls (rl_or T n) p ≤ ct p := Nat.le_trans ((hLs _).1 p hp) (rl_tp_le ct _ p)
      have hk2 : k = Ls (rl_or T n) p := rl_G_inj hS hp (by omega) hLe (by rw [rl_G_in hk, ek, h2])
      have hnk : rl_nd ND1 p k = true := (hnd p k).mpr ((r1 p hp k hk).mpr ⟨j, hj, by
        rw [← ej]
        refine b_ext (fun i hi => ?_)
        rw [b_and, bq_or _ hi n (by omega), bq_or _ hi n (by omega)]
        by_cases a : i < n
        · have := hT i a
          cases hd : rl_dn U i
          · simp
          · simp [a, this hd]
        · simp [a], by rw [← ej]; exact hk2.symm⟩)
      obtain ⟨jj, hjj, ejj⟩ := (r3 p hp).2.2.1 k hk hnk
      refine ⟨jj, ?_, ?_⟩
      · show jj < if p < n then rl_cn (rl_nd ND1 p) (ct p) else ct p
        rw [if_pos hp]; exact hjj
      · show g p (f p jj) = M' p
        rw [ejj]; exact ek) hst
  refine ⟨m + 1, lq_1201 hJ hL hkk m16 (st := st) (st' := fun s => if s < m ∧ ¬ SE1 s = 0 then 0 else st s) n4 hz (fun e _ => ⟨(hM.1 e).2.1, (hM.1 e).2.2.1, (hM.1 e).1⟩) hzW hzR hA2.2.2.2.2.1
    (fun e _ => ?_) (fun yS hyS => ?_) (m + 1) 0 zS (by omega) (by omega) (fun f hf => by rw [if_neg (by omega)]; exact hzS f hf)⟩
  · rcases hst e with y | ⟨y1, y2, y3⟩
    · exact Or.inl y
    · exact Or.inr ⟨y1, y2, y3 M hMM⟩
  · refine lq_go hJ hL hkk (iv := iv) (H := H) ⟨hA2, hI2, hH, hzI, hyS, fun e he y => ?_, fun e he y => ?_, hdn⟩
    · refine hzW e he (fun w => ?_)
      have y' : ¬ (if e < m ∧ ¬ SE1 e = 0 then 0 else st e) = 0 := y
      rcases hst e with x | x
      · rw [x] at y'; exact y' w
      · exact y' x.1
    · refine hzR e he ?_
      have y' : (if e < m ∧ ¬ SE1 e = 0 then 0 else st e) = 2 := y
      rcases hst e with x | x
      · rw [x] at y'; exact y'
      · omega
end
end
section
section
variable {n c m : Nat} {iv ct st sd rc si ri : Nat → Nat} {g : Nat → Nat → Nat}
variable {vX IV U CT NB SV ST SD RC PL SI RI LN ND SE : Nat → Int32}
variable {post : Int32 → Prop} {L kc ks kk : Nat} {xs : Nat → Int32} {x1 dn : Int32} {zI zS zW zN zR a1 a2 a3 b0 b2 b3 c0 c1 c3 d0 d1 d2 : Int64} {H : Nat → Nat → Nat → Nat}
theorem lq_175 {J : Int64 → Int64 → Int64 → Int64 → Int64 → Int64 → Int64 → Int64 → Int64 → Int64 → Int64 → Int64 → Int64 → Int64 → Int64 → Int64 → Int64 → Int32 → Int32 → Int32 → Int32 → Int32 → (Nat → Int32) → (Nat → Int32) → (Nat → Int32) → (Nat → Int32) → (Nat → Int32) → (Nat → Int32) → (Nat → Int32) → (Nat → Int32) → (Nat → Int32) → (Nat → Int32) → (Nat → Int32) → (Nat → Int32) → (Nat → Int32) → (Nat → Int32) → (Nat → Int32) → Prop} (hJ : rq_J n c m kk J) (hL : L ≤ 260) (hkk : kk ≤ 1000) (hR : rq_R n c m iv ct g st sd rc si ri H zI zS zW zN zR a1 a2 a3 b0 b2 b3 c0 c1 c3 d0 d1 d2 dn IV U CT NB ST SD RC SI RI) {x41 : Int32} {v p q : Nat} (hv : v < 2 ^ 31) (hp : p < n) (hq : q < n) (hpq : p ≠ q) :
    ∀ (fu i : Nat) (x45 : Int32), m < fu + i → i ≤ m → (x45 < 0 ∨ ∃ e, e < m ∧ st e = 1 ∧ x45 = nI e) → wL_law_175 post L xs J x1 (nI n) (nI m) zI zS zW zN zR a1 a2 a3 b0 b2 b3 c0 c1 c3 d0 d1 d2 dn (nI kk) x41 (nI v) (nI p) (nI q) kc ks (nI n) (nI c) (nI m) vX IV U CT NB SV ST SD RC PL SI RI LN ND SE fu x45 (nI i) := by
  have hR' := hR
  obtain ⟨hA, hI, hH, hzI, hzS, hzW, hzR, hdn⟩ := hR'
  have hA' := hA
  obtain ⟨hW, hIV, hCT, hNB, hST, hSD, hRC, hSI, hRI⟩ := hA'
  have hW' := hW
  obtain ⟨⟨⟨n2, n4⟩, ⟨c3h, c8⟩, ⟨m4, m16⟩⟩, hS, hM, hB⟩ := hW'
  have hgo := lq_go (kc := kc) (ks := ks) (post := post) (xs := xs) (x1 := x1) (vX := vX) (SV := SV) (PL := PL) (LN := LN) (ND := ND) (SE := SE) hJ hL hkk hR
  intro fu
  induction fu with
  | zero => intro i x45 q1 q2; omega
  | succ fu ih =>
    intro i x45 q1 q2 hat
    rw [wL_law_175]
    by_cases a : m ≤ i
    · refine br_t (nI_le a (by omega)) ?_
      refine ⟨fun _ => lq_230 hJ hL hkk hR hp, fun _ => ⟨fun _ => lq_230 hJ hL hkk hR hp, fun _ => ⟨fun _ => lq_306 hJ hL hkk hR hp hq hpq, fun _ => ⟨fun _ => lq_306 hJ hL hkk hR hp hq hpq,
        fun _ => ⟨fun _ => lq_306 hJ hL hkk hR hp hq hpq, fun _ => ⟨fun _ => lq_405 hJ hL hkk hR hat, fun _ => ⟨fun _ => lq_405 hJ hL hkk hR hat, fun _ => ⟨fun _ => lq_405 hJ hL hkk hR hat,
        fun _ => ⟨fun _ => ?_, fun _ => ⟨fun _ => ?_, fun _ => ⟨fun _ => ?_, fun _ => ⟨fun _ => ?_, fun _ => ?_⟩⟩⟩⟩⟩⟩⟩⟩⟩⟩⟩⟩
      · refine rx_crash hp n4 (fun u => br_f (by decide) hgo) (fun u => ?_)
        refine br_t rfl (nm_e ?_)
        refine lq_go hJ hL hkk (iv := iv) (ct := ct) (g := g) (st := st) (sd := sd) (rc := rc) (si := si) (ri := ri) (H := H) ⟨hA, rq_I_crash hI (fun r hr w => ?_), hH, hzI, hzS, hzW, hzR, fun r hr => ?_⟩
        · unfold rl_dn
          by_cases e : r = p
          · rw [e, pk_us]; decide
          · rw [pk_un e]; exact w
        · rw [b_or, bq_shl1 (by omega) (by omega), hdn r hr]
          unfold rl_dn
          by_cases e : r = p
          · rw [e, pk_us]; simp
          · rw [pk_un e]; simp [e]
      · refine wl_top n4 (rq_R_14 hR) (fun x hx => ?_)
        obtain ⟨M, hMM⟩ := rq_ex n iv (rl_dn U) H
        have hx2 := rq_R_top hR dn hx
        rw [rq_R_topD hR] at hx2
        refine wl_line hMM hH hx2 (fun z hz => ?_)
        exact ⟨m + 1, lq_838 hJ hL hkk hR hMM hz (m + 1) 0 zS (by omega) (by omega) (fun f hf => by rw [if_neg (by omega)]; exact hzS f hf)⟩
      · obtain ⟨M, hMM⟩ := rq_ex n iv (fun _ => true) H
        refine wl_line hMM hH (fun r hr => ?_) (fun z hz => ?_)
        · rw [hzI r hr]
          by_cases w : r < n
          · rw [if_pos w, rq_top_t w rfl]
          · rw [if_neg w, rq_top_o w]
        · exact lq_reclaim hJ hL hkk hR hMM hz (fun r vX1 IV1 U1 CT1 NB1 SV1 ST1 SD1 RC1 PL1 SI1 RI1 LN1 ND1 SE1 hh => hh)
      · refine rx_step hp n4 (fun r vX1 => ?_)
        exact lq_go hJ hL hkk hR
      · rcases hat with h | ⟨e, he, h1, rfl⟩
        · exact br_t h hgo
        · refine br_f (nI_pos (by omega)) ?_
          refine rx_lose (st := st) he m16 (hST e) (hM.1 e).1 (fun w => absurd h1 w) (fun _ => ?_)
          refine br_t rfl ?_
          refine wl_set (v := 0) (by omega) (by omega) (fun z hz => ?_)
          have hdrop : ∀ f, rl_u st e 0 f = st f ∨ (rl_u st e 0 f = 0 ∧ ¬ st f = 2) := by
            intro f
            by_cases w : f = e
            · rw [w, rl_us]; exact Or.inr ⟨rfl, by omega⟩
            · rw [rl_un w]; exact Or.inl rfl
          refine lq_go hJ hL hkk (iv := iv) (ct := ct) (g := g) (st := rl_u st e 0) (sd := sd) (rc := rc) (si := si) (ri := ri) (H := H)
            ⟨⟨rl_W_drop hW (fun f => (hdrop f).imp id (fun w => w.1)), hIV, hCT, hNB, rl_uI hST e 0, hSD, hRC, hSI, hRI⟩, rq_I_st hI hdrop, hH, hzI, fun f hf => ?_, fun f hf y => ?_, fun f hf y => ?_, hdn⟩
          · rw [hz f (by omega)]
            by_cases w : f = e
            · rw [if_pos w, w, rl_us]
            · rw [if_neg w, rl_un w]; exact hzS f hf
          · by_cases w : f = e
            · rw [w, rl_us] at y; exact absurd rfl y
            · rw [rl_un w] at y; exact hzW f hf y
          · by_cases w : f = e
            · rw [w, rl_us] at y; omega
            · rw [rl_un w] at y; exact hzR f hf y
    · have hm0 : ¬ nI m = 0 := nI_ne0 (by omega) (by omega)
      refine br_f (nI_ge (by omega) (by omega)) ⟨hm0, hm0, ?_⟩
      have hlt := Nat.mod_lt v (show 0 < m by omega)
      have e1 : nI v - nI v / nI m * nI m = nI (v % m) := pk_rem hv (by omega) (by omega)
      have e2 : nI (v % m + i) - nI (v % m + i) / nI m * nI m = nI ((v % m + i) % m) := pk_rem (by omega) (by omega) (by omega)
      have hlt2 := Nat.mod_lt (v % m + i) (show 0 < m by omega)
      rw [e1, nI_add, e2]
      refine nm_e ?_
      refine br_c (fun w => ?_) (fun w => ?_)
      · refine nm_e ?_
        rw [nI_1]
        exact ih (i + 1) x45 (by omega) (by omega) hat
      · refine wl_nib (by omega) ?_
        rw [hzS _ hlt2]
        have t1 := (hM.1 ((v % m + i) % m)).1
        refine br_c (fun y => ?_) (fun y => ?_)
        · refine nm_e ?_
          rw [nI_1]
          exact ih (i + 1) _ (by omega) (by omega) (Or.inr ⟨_, hlt2, (rl_eq1 (by omega)).mp y, rfl⟩)
        · refine nm_e ?_
          rw [nI_1]
          exact ih (i + 1) x45 (by omega) (by omega) hat
theorem lq_121 {J : Int64 → Int64 → Int64 → Int64 → Int64 → Int64 → Int64 → Int64 → Int64 → Int64 → Int64 → Int64 → Int64 → Int64 → Int64 → Int64 → Int64 → Int32 → Int32 → Int32 → Int32 → Int32 → (Nat → Int32) → (Nat → Int32) → (Nat → Int32) → (Nat → Int32) → (Nat → Int32) → (Nat → Int32) → (Nat → Int32) → (Nat → Int32) → (Nat → Int32) → (Nat → Int32) → (Nat → Int32) → (Nat → Int32) → (Nat → Int32) → (Nat → Int32) → (Nat → Int32) → Prop} (hJ : rq_J n c m kk J) (hL : L ≤ 260) (hkk : kk ≤ 1000) (hR : rq_R n c m iv ct g st sd rc si ri H zI zS zW zN zR a1 a2 a3 b0 b2 b3 c0 c1 c3 d0 d1 d2 dn IV U CT NB ST SD RC SI RI) (hx1 : x1 = 2147483647) : wL_law_121 post L xs J x1 (nI n) (nI m) zI zS zW zN zR a1 a2 a3 b0 b2 b3 c0 c1 c3 d0 d1 d2 dn (nI kk) kc ks (nI n) (nI c) (nI m) vX IV U CT NB SV ST SD RC PL SI RI LN ND SE := by
  have n4 := hR.1.1.1.1.2
  have n2 := hR.1.1.1.1.1
  unfold wL_law_121
  refine lq_cell (by omega) (by omega) (fun r1 => ?_)
  refine ⟨by decide, nm_e ?_⟩
  rw [nI_1]
  refine lq_cell (by omega) (by omega) (fun r2 => ?_)
  obtain ⟨v, hv, ev⟩ := pk_andE r2 (m := 2147483647) 31 (by decide)
  rw [hx1, ev]
  refine nm_e ?_
  have hn0 : ¬ nI n = 0 := nI_ne0 (by omega) (by omega)
  have en1 : nI n - 1 = nI (n - 1) := by
    have := nI_pred (n - 1)
    have e : n - 1 + 1 = n := by omega
    rw [e] at this
    exact this
  have hn1 : ¬ nI (n - 1) = 0 := nI_ne0 (by omega) (by omega)
  have hd : v / n ≤ v := Nat.div_le_self _ _
  have hp := Nat.mod_lt v (show 0 < n by omega)
  have ht := Nat.mod_lt (v / n) (show 0 < n - 1 by omega)
  rw [pk_rem hv (by omega) (by omega), pk_div hv (by omega) (by omega), en1, pk_rem (by omega) (by omega) (by omega)]
  have hq := Nat.mod_lt (v % n + 1 + v / n % (n - 1)) (show 0 < n by omega)
  have hpq : v % n ≠ (v % n + 1 + v / n % (n - 1)) % n := by
    generalize v % n = p at hp
    generalize v / n % (n - 1) = t at ht
    have : n = 2 ∨ n = 3 ∨ n = 4 := by omega
    rcases this with e | e | e <;> subst e <;> omega
  refine ⟨hn0, nm_e ⟨hn0, hn1, hn0, ?_⟩⟩
  rw [nI_1 (v % n), nI_add, pk_rem (by omega) (by omega) (by omega)]
  refine nm_e ?_
  exact ⟨m + 1, lq_175 hJ hL hkk hR hv hp hq hpq (m + 1) 0 (-1) (by omega) (by omega) (Or.inl (by decide))⟩
theorem lq_108 (hL : L ≤ 260) (hp1 : post 1) (hx1 : x1 = 2147483647) :
    ∀ (fu kk : Nat) (iv ct : Nat → Nat) (g : Nat → Nat → Nat) (st sd rc si ri : Nat → Nat) (H : Nat → Nat → Nat → Nat) (zI zS zW zN zR a1 a2 a3 b0 b2 b3 c0 c1 c3 d0 d1 d2 : Int64) (dn : Int32)
    (vX IV U CT NB SV ST SD RC PL SI RI LN ND SE : Nat → Int32), 600 < fu + kk → kk ≤ 262 → rq_R n c m iv ct g st sd rc si ri H zI zS zW zN zR a1 a2 a3 b0 b2 b3 c0 c1 c3 d0 d1 d2 dn IV U CT NB ST SD RC SI RI → wL_law_108 post L xs x1 (nI n) (nI m) kc ks fu zI zS zW zN zR a1 a2 a3 b0 b2 b3 c0 c1 c3 d0 d1 d2 dn (nI kk) (nI n) (nI c) (nI m) vX IV U CT NB SV ST SD RC PL SI RI LN ND SE := by
  intro fu
  induction fu with
  | zero => intro kk _ _ _ _ _ _ _ _ _ _ _ _ _ _ _ _ _ _ _ _ _ _ _ _ _ _ _ _ _ _ _ _ _ _ _ _ _ _ _ _ _ _ _ q1 q2; omega
  | succ fu ih =>
    intro kk iv ct g st sd rc si ri H zI zS zW zN zR a1 a2 a3 b0 b2 b3 c0 c1 c3 d0 d1 d2 dn vX IV U CT NB SV ST SD RC PL SI RI LN ND SE q1 q2 hR
    rw [wL_law_108]
    have hJ : kk + 2 ≤ 262 → rq_J n c m kk (wL_law_108 post L xs x1 (nI n) (nI m) kc ks fu) := by
      intro hk iv ct g st sd rc si ri H zI zS zW zN zR a1 a2 a3 b0 b2 b3 c0 c1 c3 d0 d1 d2 dn vX IV U CT NB SV ST SD RC PL SI RI LN ND SE hR2
      have e : nI kk + 2 = nI (kk + 2) := nI_add kk 2
      rw [e]
      exact ih (kk + 2) iv ct g st sd rc si ri H zI zS zW zN zR a1 a2 a3 b0 b2 b3 c0 c1 c3 d0 d1 d2 dn vX IV U CT NB SV ST SD RC PL SI RI LN ND SE (by omega) hk hR2
    refine br_c (fun w => ?_) (fun w => ?_)
    · have hk3 : kk = 3 := (nI_eq (b := 3) (by omega) (by decide)).mp w
      exact lq_121 (hJ (by omega)) hL (by omega) hR hx1
    · refine br_c (fun _ => hp1) (fun y => ?_)
      have y' : ¬ nI L ≤ nI kk := y
      rw [nI_leI (by omega) (by omega)] at y'
      exact lq_121 (hJ (by omega)) hL (by omega) hR hx1
end
end
section
theorem rl_updZ (k : Nat) : upd (fun _ => 0) k 0 = fun _ => 0 := by
  funext q
  unfold upd
  split <;> rfl
theorem rl_W_0 {n c m : Nat} (hn : 2 ≤ n ∧ n ≤ 4) (hc : 3 ≤ c ∧ c ≤ 8) (hm : 4 ≤ m ∧ m ≤ 16) : rl_W n c m (fun _ => 0) (fun p => if p < n then 1 else 0) (fun _ _ => 0) (fun _ => 0) (fun _ => 0) (fun _ => 0) (fun _ => 0) (fun _ => 0) := by
  refine ⟨⟨hn, hc, hm⟩, fun p hp => ?_, ⟨fun s => ⟨Nat.zero_le _, by show 0 < n; omega, by show 0 < n; omega, Nat.zero_le _, Nat.zero_le _⟩, fun s _ _ => Nat.le_refl _⟩, fun _ => 0, fun p hp => ?_, fun s _ h => absurd h (by show ¬ 0 = 2; omega)⟩
  · show 1 ≤ (if p < n then 1 else 0) ∧ (if p < n then 1 else 0) ≤ c ∧ (∀ j k, j < k → k < (if p < n then 1 else 0) → 0 < 0) ∧ (∀ k, k < (if p < n then 1 else 0) → 0 ≤ 0) ∧ 0 ≤ 99
    rw [if_pos hp]
    exact ⟨by omega, by omega, fun j k h1 h2 => by omega, fun k _ => by omega, by omega⟩
  · show 0 < (if p < n then 1 else 0)
    rw [if_pos hp]; omega
theorem rq_init_l {n c m mc ms kc ks : Nat} (n4 : n ≤ 4) {post : St2 → Prop} (hpost : ∀ vX SV, post (nI n, nI c, nI m, vX, fun _ => 0, rl_mix n (fun _ => 1) (fun _ => 0), rl_mix n (fun _ => 1) (fun _ => 0), fun _ => 0, SV, fun _ => 0, fun _ => 0, fun _ => 0, fun _ => 0, fun _ => 0, fun _ => 0, fun _ => 0, fun _ => 0, fun _ => 0)) :
    ∀ (fu i : Nat) (vX SV : Nat → Int32), n < fu + i → i ≤ n → wX_init_154 post mc ms kc ks fu (nI i) (nI n) (nI c) (nI m) vX (fun _ => 0) (rl_mix i (fun _ => 1) (fun _ => 0)) (rl_mix i (fun _ => 1) (fun _ => 0)) (fun _ => 0) SV (fun _ => 0) (fun _ => 0) (fun _ => 0) (fun _ => 0) (fun _ => 0) (fun _ => 0) (fun _ => 0) (fun _ => 0) (fun _ => 0) := by
  intro fu
  induction fu with
  | zero => intro i vX SV q1 q2; omega
  | succ fu ih =>
    intro i vX SV q1 q2
    by_cases e : n ≤ i
    · have e2 : i = n := by omega
      simp (disch := omega) only [wX_init_154, e, forall_eq, Nat.le_refl, rl_10, rl_n10, nI_leI, nI_ltI, nI_eq, vp_in_nI, nI_clamp, nI_1, nI_add, rl_lt0, rl_0le, rl_eq0, rl_eq1, rl_eq2, rl_m1, rl_m8, rl_m100, rl_vb0, rl_vb1, true_implies, forall_const, not_true_eq_false, not_false_eq_true, false_implies, and_true, true_and, implies_true, and_self]
      rw [e2]
      exact hpost vX SV
    · have hct : rl_mix i (fun _ => (1 : Int32)) (fun _ => 0) i = 0 := rl_mix_ge (Nat.le_refl _)
      simp (disch := omega) only [wX_init_154, wpX_store, wpX_firstCell, e, hct, Int32.add_zero, Int32.zero_add, pk_us, rl_updZ, forall_eq, Nat.le_refl, rl_10, rl_n10, nI_leI, nI_ltI, nI_eq, vp_in_nI, nI_clamp, nI_1, nI_add, rl_lt0, rl_0le, rl_eq0, rl_eq1, rl_eq2, rl_m1, rl_m8, rl_m100, rl_vb0, rl_vb1, true_implies, forall_const, not_true_eq_false, not_false_eq_true, false_implies, and_true, true_and, implies_true, and_self]
      rw [rl_mix_s (i := i) (a := fun _ => (1 : Int32)) (x := 1) rfl]
      exact ih (i + 1) _ _ (by omega) (by omega)
theorem rq_R_0 {n c m : Nat} (hn : 2 ≤ n ∧ n ≤ 4) (hc : 3 ≤ c ∧ c ≤ 8) (hm : 4 ≤ m ∧ m ≤ 16) :
    rq_R n c m (fun _ => 0) (fun p => if p < n then 1 else 0) (fun _ _ => 0) (fun _ => 0) (fun _ => 0) (fun _ => 0) (fun _ => 0) (fun _ => 0) (fun _ _ _ => 0) 0 0 0 0 0 0 0 0 0 0 0 0 0 0 0 0 0 0
      (fun _ => 0) (rl_mix n (fun _ => 1) (fun _ => 0)) (rl_mix n (fun _ => 1) (fun _ => 0)) (fun _ => 0) (fun _ => 0) (fun _ => 0) (fun _ => 0) (fun _ => 0) (fun _ => 0) := by
  refine ⟨⟨rl_W_0 hn hc hm, fun p => rfl, fun p => ?_, fun p _ k _ => rfl, fun s => rfl, fun s => rfl, fun s => rfl, fun s => rfl, fun s => rfl⟩, ⟨fun p _ => Nat.zero_le _, fun r s j h => absurd h (by show ¬ 0 < 0; omega), fun e _ h => absurd rfl h, fun e _ h => absurd h (by show ¬ 0 = 2; omega), fun r s j h => absurd h (by show ¬ 0 < 0; omega), fun T _ M hM p hp => ?_⟩,
    fun j _ => ?_, fun p _ => ?_, fun e _ => nk_0 e, fun e _ h => absurd rfl h, fun e _ h => absurd h (by show ¬ 0 = 2; omega), fun p hp => ?_⟩
  · show _ = nI (if p < n then 1 else 0)
    by_cases h : p < n
    · rw [rl_mix_lt h, if_pos h]; rfl
    · rw [rl_mix_ge (by omega), if_neg h]; rfl
  · have h1 := hM.1 p (by omega)
    have h2 := hM.2.2 (rq_top n (fun _ => 0) T) (fun q _ => Nat.le_refl _) (fun r _ s _ _ j _ => Nat.zero_le _) p (by omega)
    show M p = 0 + 1 ∨ ∃ k, k < (if p < n then 1 else 0) ∧ 0 = M p
    by_cases t : T p = true
    · rw [rq_top_t hp t] at h1 h2
      exact Or.inr ⟨0, by rw [if_pos hp]; omega, by omega⟩
    · rw [rq_top_f hp t] at h1 h2
      exact Or.inl (by omega)
  · simp only [nk_0, and_self]
  · rw [nk_0]; split <;> rfl
  · rw [b_0]
    unfold rl_dn
    rw [rl_mix_lt hp]
    decide
theorem rq_clamp {post : Int32 → Prop} {u : St0} {x lo hi : Int32} (h1 : lo ≤ x) (h2 : x ≤ hi) (k : post x) : wpX_clamp post u x lo hi := br_t h1 (br_t h2 k)
theorem i_vc (xs : Nat → Int32) (L : Nat) (hL : L ≤ 260) : wpL_law (fun r => r = 1) L xs := by
  unfold wpL_law
  refine lq_cell (j := 0) (by omega) (by omega) (fun r1 => ?_)
  refine ⟨by decide, ?_⟩
  obtain ⟨a, ha, ea⟩ := pk_andE r1 (m := 2147483647) 31 (by decide)
  have e1 : nI a - nI a / 3 * 3 = nI (a % 3) := pk_rem (d := 3) ha (by omega) (by omega)
  have e2 : 2 + nI (a % 3) = nI (2 + a % 3) := nI_add 2 _
  rw [ea, e1, e2]
  refine nm_e ?_
  refine lq_cell (j := 2) (by omega) (by omega) (fun r2 => ?_)
  refine ⟨by decide, ?_⟩
  obtain ⟨b, hb, eb⟩ := pk_andE r2 (m := 2147483647) 31 (by decide)
  have e3 : nI b - nI b / 13 * 13 = nI (b % 13) := pk_rem (d := 13) hb (by omega) (by omega)
  have e4 : 4 + nI (b % 13) = nI (4 + b % 13) := nI_add 4 _
  rw [eb, e3, e4]
  refine nm_e ?_
  refine lq_cell (j := 1) (by omega) (by omega) (fun r3 => ?_)
  refine ⟨by decide, ?_⟩
  obtain ⟨d, hd, ed⟩ := pk_andE r3 (m := 2147483647) 31 (by decide)
  have e5 : nI d - nI d / 6 * 6 = nI (d % 6) := pk_rem (d := 6) hd (by omega) (by omega)
  have e6 : 3 + nI (d % 6) = nI (3 + d % 6) := nI_add 3 _
  rw [ed, e5, e6]
  have hn : 2 ≤ 2 + a % 3 ∧ 2 + a % 3 ≤ 4 := by omega
  have hm : 4 ≤ 4 + b % 13 ∧ 4 + b % 13 ≤ 16 := by omega
  have hc : 3 ≤ 3 + d % 6 ∧ 3 + d % 6 ≤ 8 := by omega
  generalize 2 + a % 3 = n at hn
  generalize 4 + b % 13 = m at hm
  generalize 3 + d % 6 = c at hc
  refine ⟨15, 228, by omega, by omega, ?_⟩
  unfold wpX_init
  refine ⟨by omega, by omega, by omega, by omega, by omega, by omega, by omega, by omega, by omega, by omega, by omega, by omega, by omega, by omega, by omega, by omega, by omega, by omega, by omega, by omega, by omega, by omega, by omega, by omega, by omega, by omega, by omega, by omega, by omega, by omega, ?_⟩
  refine rq_clamp (nI_le (a := 2) hn.1 (by omega)) (nI_le (b := 4) hn.2 (by omega)) ?_
  refine rq_clamp (nI_le (a := 3) hc.1 (by omega)) (nI_le (b := 8) hc.2 (by omega)) ?_
  refine rq_clamp (nI_le (a := 4) hm.1 (by omega)) (nI_le (b := 16) hm.2 (by omega)) ?_
  have := rq_init_l (c := c) (m := m) (mc := 15) (ms := 228) (kc := 15) (ks := 228) hn.2 (post := fun u => match u with
    | (f1, f2, f3, u1, u2, u3, u4, u5, u6, u7, u8, u9, u10, u11, u12, u13, u14, u15) => ∃ fu108 : Nat, wL_law_108 (fun r => r = 1) L xs 2147483647 (nI n) (nI m) (1 + 15) (18 + 228) fu108 0 0 0 0 0 0 0 0 0 0 0 0 0 0 0 0 0 0 3 f1 f2 f3 u1 u2 u3 u4 u5 u6 u7 u8 u9 u10 u11 u12 u13 u14 u15)
    (fun vX SV => ?_) (n + 1) 0 (fun _ => 0) (fun _ => 0) (by omega) (by omega)
  · rw [rl_mix_0] at this
    exact ⟨_, this⟩
  · exact ⟨600, lq_108 (post := fun r => r = 1) (xs := xs) (x1 := 2147483647) (kc := 1 + 15) (ks := 18 + 228) hL rfl rfl 600 3 _ _ _ _ _ _ _ _ _ _ _ _ _ _ _ _ _ _ _ _ _ _ _ _ _ _ _ _ _ _ _ _ _ _ _ _ _ _ _ _ _ _ (by omega) (by omega) (rq_R_0 hn hc hm)⟩
end
