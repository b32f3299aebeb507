/-- the component of p at place k: a stored number, or "now" behind them -/
def rl_G (ct : Nat → Nat) (g : Nat → Nat → Nat) (iv : Nat → Nat) (p k : Nat) : Nat := if k < ct p then g p k else iv p + 1
def rl_Sto (n c : Nat) (iv ct : Nat → Nat) (g : Nat → Nat → Nat) : Prop :=
  ∀ p, p < n → 1 ≤ ct p ∧ ct p ≤ c ∧ (∀ j k, j < k → k < ct p → g p j < g p k) ∧ (∀ k, k < ct p → g p k ≤ iv p) ∧ iv p ≤ 99
def rl_Msg (n m : Nat) (iv st sd rc si ri : Nat → Nat) : Prop :=
  (∀ s, st s ≤ 2 ∧ sd s < n ∧ rc s < n ∧ si s ≤ 99 ∧ ri s ≤ 99) ∧ ∀ s, s < m → st s = 2 → ri s ≤ iv (rc s)
def rl_Cons (m : Nat) (st sd rc si ri x : Nat → Nat) : Prop :=
  ∀ s, s < m → st s = 2 → ri s < x (rc s) → si s < x (sd s)
def rl_C (m : Nat) (iv ct : Nat → Nat) (g : Nat → Nat → Nat) (st sd rc si ri κ : Nat → Nat) : Prop :=
  rl_Cons m st sd rc si ri (fun p => rl_G ct g iv p (κ p))
def rl_W (n c m : Nat) (iv ct : Nat → Nat) (g : Nat → Nat → Nat) (st sd rc si ri : Nat → Nat) : Prop :=
  ((2 ≤ n ∧ n ≤ 4) ∧ (3 ≤ c ∧ c ≤ 8) ∧ (4 ≤ m ∧ m ≤ 16)) ∧ rl_Sto n c iv ct g ∧ rl_Msg n m iv st sd rc si ri ∧
    ∃ B : Nat → Nat, (∀ p, p < n → B p < ct p) ∧ rl_C m iv ct g st sd rc si ri B
/-- the top places for a set T -/
def rl_tp (ct : Nat → Nat) (T : Int32) (p : Nat) : Nat := if (T &&& ((1 : Int32) <<< (nI p &&& 31))) = 0 then ct p else ct p - 1
/-- one cell of a function changed -/
def rl_u (f : Nat → Nat) (k v : Nat) : Nat → Nat := fun j => if j = k then v else f j
theorem rl_us {f : Nat → Nat} {k v : Nat} : rl_u f k v k = v := if_pos rfl
theorem rl_un {f : Nat → Nat} {k v j : Nat} (h : j ≠ k) : rl_u f k v j = f j := if_neg h
section
variable {n c m : Nat} {iv ct st sd rc si ri : Nat → Nat} {g : Nat → Nat → Nat}
theorem rl_tp_le (ct : Nat → Nat) (T : Int32) (p : Nat) : rl_tp ct T p ≤ ct p := by
  unfold rl_tp
  split <;> omega
theorem rl_G_in {p k : Nat} (h : k < ct p) : rl_G ct g iv p k = g p k := if_pos h
theorem rl_G_now {p k : Nat} (h : ¬ k < ct p) : rl_G ct g iv p k = iv p + 1 := if_neg h
theorem rl_G_lt (hS : rl_Sto n c iv ct g) {p j k : Nat} (hp : p < n) (hj : j < k) (hk : k ≤ ct p) : rl_G ct g iv p j < rl_G ct g iv p k := by
  obtain ⟨_, _, h3, h4, _⟩ := hS p hp
  have hj' : j < ct p := by omega
  rw [rl_G_in hj']
  by_cases e : k < ct p
  · rw [rl_G_in e]; exact h3 j k hj e
  · rw [rl_G_now e]
    have := h4 j hj'
    omega
theorem rl_G_le (hS : rl_Sto n c iv ct g) {p j k : Nat} (hp : p < n) (hj : j ≤ k) (hk : k ≤ ct p) : rl_G ct g iv p j ≤ rl_G ct g iv p k := by
  by_cases e : j = k
  · rw [e]; exact Nat.le_refl _
  · exact Nat.le_of_lt (rl_G_lt hS hp (by omega) hk)
theorem rl_G_100 (hS : rl_Sto n c iv ct g) {p : Nat} (k : Nat) (hp : p < n) : rl_G ct g iv p k ≤ 100 := by
  obtain ⟨_, _, _, h4, h5⟩ := hS p hp
  by_cases e : k < ct p
  · rw [rl_G_in e]
    have := h4 k e
    omega
  · rw [rl_G_now e]; omega
/-- the place is told by the number -/
theorem rl_G_inj (hS : rl_Sto n c iv ct g) {p j k : Nat} (hp : p < n) (hj : j ≤ ct p) (hk : k ≤ ct p) (e : rl_G ct g iv p j = rl_G ct g iv p k) : j = k := by
  rcases Nat.lt_trichotomy j k with l | l | l
  · have := rl_G_lt hS hp l hk; omega
  · exact l
  · have := rl_G_lt hS hp l hj; omega
theorem rl_exL (hW : rl_W n c m iv ct g st sd rc si ri) (T : Int32) : ∃ L, rl_IsL n (rl_tp ct T) (rl_C m iv ct g st sd rc si ri) L := by
  obtain ⟨_, hS, hM, B, hB, cB⟩ := hW
  refine rl_greatest ⟨B, fun p hp => ?_, cB⟩ (fun a b ha hb ca cb => ?_)
  · have := hB p hp
    unfold rl_tp
    split <;> omega
  · intro s hs h2 hr
    have hr' : ri s < rl_G ct g iv (rc s) (rl_max a b (rc s)) := hr
    show si s < rl_G ct g iv (sd s) (rl_max a b (sd s))
    have hsd := (hM.1 s).2.1
    have hct : rl_max a b (sd s) ≤ ct (sd s) := by
      have h1 := ha (sd s) hsd
      have h2 := hb (sd s) hsd
      have h3 := rl_tp_le ct T (sd s)
      rcases rl_max_or a b (sd s) with e | e <;> rw [e] <;> omega
    rcases rl_max_or a b (rc s) with e | e
    · rw [e] at hr'
      exact Nat.lt_of_lt_of_le (ca s hs h2 hr') (rl_G_le hS hsd (rl_max_l a b (sd s)) hct)
    · rw [e] at hr'
      exact Nat.lt_of_lt_of_le (cb s hs h2 hr') (rl_G_le hS hsd (rl_max_r a b (sd s)) hct)
/-- an orphan above the line: the line's component of its receiver is stored, and not above its receipt -/
theorem rl_low (hS : rl_Sto n c iv ct g) (hM : rl_Msg n m iv st sd rc si ri) {T : Int32} {L κ : Nat → Nat}
    (hL : rl_IsL n (rl_tp ct T) (rl_C m iv ct g st sd rc si ri) L) (hκ : rl_le n κ (rl_tp ct T)) (hLκ : rl_le n L κ) {s : Nat} (hs : s < m) (h2 : st s = 2)
    (hsi : ¬ si s < rl_G ct g iv (sd s) (κ (sd s))) : L (rc s) < ct (rc s) ∧ g (rc s) (L (rc s)) ≤ ri s := by
  have hsd := (hM.1 s).2.1
  have hrc := (hM.1 s).2.2.1
  have hiv := hM.2 s hs h2
  have h3 := rl_tp_le ct T (sd s)
  have h4 := hκ (sd s) hsd
  have h5 : rl_G ct g iv (sd s) (L (sd s)) ≤ rl_G ct g iv (sd s) (κ (sd s)) := rl_G_le hS hsd (hLκ _ hsd) (by omega)
  have h6 : ¬ ri s < rl_G ct g iv (rc s) (L (rc s)) := by
    intro z
    have : si s < rl_G ct g iv (sd s) (L (sd s)) := hL.2.1 s hs h2 z
    omega
  by_cases e : L (rc s) < ct (rc s)
  · rw [rl_G_in e] at h6
    exact ⟨e, by omega⟩
  · rw [rl_G_now e] at h6
    omega
/-- the messages change: those that bind a choice are old ones, or are received now -/
theorem rl_W_msg (hW : rl_W n c m iv ct g st sd rc si ri) {st' sd' rc' si' ri' : Nat → Nat} (hM : rl_Msg n m iv st' sd' rc' si' ri')
    (h : ∀ s, s < m → st' s = 2 → (st s = 2 ∧ sd' s = sd s ∧ rc' s = rc s ∧ si' s = si s ∧ ri' s = ri s) ∨ iv (rc' s) ≤ ri' s) :
    rl_W n c m iv ct g st' sd' rc' si' ri' := by
  obtain ⟨hb, hS, _, B, hB, cB⟩ := hW
  refine ⟨hb, hS, hM, B, hB, fun s hs h2 hr => ?_⟩
  have hr' : ri' s < rl_G ct g iv (rc' s) (B (rc' s)) := hr
  show si' s < rl_G ct g iv (sd' s) (B (sd' s))
  rcases h s hs h2 with ⟨e1, e2, e3, e4, e5⟩ | e
  · rw [e3, e5] at hr'
    rw [e2, e4]
    exact cB s hs e1 hr'
  · exfalso
    have hrc := (hM.1 s).2.2.1
    have h3 := hB _ hrc
    rw [rl_G_in h3] at hr'
    have := (hS _ hrc).2.2.2.1 _ h3
    omega
theorem rl_W_send (hW : rl_W n c m iv ct g st sd rc si ri) {s p q : Nat} (hp : p < n) (hq : q < n) :
    rl_W n c m iv ct g (rl_u st s 1) (rl_u sd s p) (rl_u rc s q) (rl_u si s (iv p)) ri := by
  have hS := hW.2.1
  have hM := hW.2.2.1
  refine rl_W_msg hW ⟨fun j => ?_, fun j hj h2 => ?_⟩ (fun j hj h2 => ?_)
  · by_cases e : j = s
    · rw [e, rl_us, rl_us, rl_us, rl_us]
      exact ⟨by omega, hp, hq, (hS p hp).2.2.2.2, (hM.1 s).2.2.2.2⟩
    · rw [rl_un e, rl_un e, rl_un e, rl_un e]
      exact hM.1 j
  · by_cases e : j = s
    · rw [e, rl_us] at h2; omega
    · rw [rl_un e] at h2 ⊢
      exact hM.2 j hj h2
  · by_cases e : j = s
    · rw [e, rl_us] at h2; omega
    · rw [rl_un e] at h2
      rw [rl_un e, rl_un e, rl_un e]
      exact Or.inl ⟨h2, rfl, rfl, rfl, rfl⟩
theorem rl_W_deliver (hW : rl_W n c m iv ct g st sd rc si ri) {s : Nat} :
    rl_W n c m iv ct g (rl_u st s 2) sd rc si (rl_u ri s (iv (rc s))) := by
  have hS := hW.2.1
  have hM := hW.2.2.1
  refine rl_W_msg hW ⟨fun j => ?_, fun j hj h2 => ?_⟩ (fun j hj h2 => ?_)
  · by_cases e : j = s
    · rw [e, rl_us, rl_us]
      have h := hM.1 s
      exact ⟨by omega, h.2.1, h.2.2.1, h.2.2.2.1, (hS _ h.2.2.1).2.2.2.2⟩
    · rw [rl_un e, rl_un e]
      exact hM.1 j
  · by_cases e : j = s
    · rw [e, rl_us]; exact Nat.le_refl _
    · rw [rl_un e] at h2 ⊢
      exact hM.2 j hj h2
  · by_cases e : j = s
    · rw [e, rl_us]; exact Or.inr (Nat.le_refl _)
    · rw [rl_un e] at h2
      rw [rl_un e]
      exact Or.inl ⟨h2, rfl, rfl, rfl, rfl⟩
/-- some slots are emptied -/
theorem rl_W_drop (hW : rl_W n c m iv ct g st sd rc si ri) {st' : Nat → Nat} (h : ∀ s, st' s = st s ∨ st' s = 0) :
    rl_W n c m iv ct g st' sd rc si ri := by
  have hM := hW.2.2.1
  have h3 : ∀ j, st' j = 2 → st j = 2 := by
    intro j h2
    rcases h j with e | e <;> omega
  refine rl_W_msg hW ⟨fun j => ?_, fun j hj h2 => hM.2 j hj (h3 j h2)⟩ (fun j hj h2 => Or.inl ⟨h3 j h2, rfl, rfl, rfl, rfl⟩)
  have hj := hM.1 j
  refine ⟨?_, hj.2⟩
  rcases h j with e | e <;> omega
/-- a checkpoint is stored -/
def rl_gC (g : Nat → Nat → Nat) (p k v : Nat) : Nat → Nat → Nat := fun q j => if q = p ∧ j = k then v else g q j
theorem rl_gC_s {p k v : Nat} : rl_gC g p k v p k = v := if_pos ⟨rfl, rfl⟩
theorem rl_gC_n {p k v q j : Nat} (h : ¬ (q = p ∧ j = k)) : rl_gC g p k v q j = g q j := if_neg h
theorem rl_W_check (hW : rl_W n c m iv ct g st sd rc si ri) {p : Nat} (hp : p < n) (h99 : iv p < 99) (hc : ct p < c) :
    rl_W n c m (rl_u iv p (iv p + 1)) (rl_u ct p (ct p + 1)) (rl_gC g p (ct p) (iv p + 1)) st sd rc si ri := by
  obtain ⟨hb, hS, hM, B, hB, cB⟩ := hW
  have hge : ∀ q, iv q ≤ rl_u iv p (iv p + 1) q := by
    intro q
    by_cases e : q = p
    · rw [e, rl_us]; omega
    · rw [rl_un e]; exact Nat.le_refl _
  have hgB : ∀ q, q < n → rl_G (rl_u ct p (ct p + 1)) (rl_gC g p (ct p) (iv p + 1)) (rl_u iv p (iv p + 1)) q (B q) = rl_G ct g iv q (B q) := by
    intro q hq
    have h1 := hB q hq
    have h2 : B q < rl_u ct p (ct p + 1) q := by
      by_cases e : q = p
      · rw [e] at h1 ⊢; rw [rl_us]; omega
      · rw [rl_un e]; exact h1
    rw [rl_G_in h2, rl_G_in h1, rl_gC_n]
    rintro ⟨e1, e2⟩
    rw [e1] at h1 e2
    omega
  refine ⟨hb, fun q hq => ?_, ⟨hM.1, fun s hs h2 => Nat.le_trans (hM.2 s hs h2) (hge _)⟩, B, fun q hq => ?_, fun s hs h2 hr => ?_⟩
  · obtain ⟨h1, h2, h3, h4, h5⟩ := hS q hq
    by_cases e : q = p
    · rw [e] at h1 h2 h3 h4 h5 ⊢
      rw [rl_us, rl_us]
      refine ⟨by omega, by omega, fun j k hj hk => ?_, fun k hk => ?_, by omega⟩
      · have hj' : ¬ (p = p ∧ j = ct p) := fun z => by omega
        rw [rl_gC_n hj']
        by_cases ek : k = ct p
        · rw [ek, rl_gC_s]
          have := h4 j (by omega)
          omega
        · rw [rl_gC_n (fun z => ek z.2)]
          exact h3 j k hj (by omega)
      · by_cases ek : k = ct p
        · rw [ek, rl_gC_s]; exact Nat.le_refl _
        · rw [rl_gC_n (fun z => ek z.2)]
          have := h4 k (by omega)
          omega
    · rw [rl_un e, rl_un e]
      refine ⟨h1, h2, fun j k hj hk => ?_, fun k hk => ?_, h5⟩
      · rw [rl_gC_n (fun z => e z.1), rl_gC_n (fun z => e z.1)]
        exact h3 j k hj hk
      · rw [rl_gC_n (fun z => e z.1)]
        exact h4 k hk
  · have h1 := hB q hq
    by_cases e : q = p
    · rw [e] at h1 ⊢; rw [rl_us]; omega
    · rw [rl_un e]; exact h1
  · have h := hM.1 s
    have hr' : ri s < rl_G (rl_u ct p (ct p + 1)) (rl_gC g p (ct p) (iv p + 1)) (rl_u iv p (iv p + 1)) (rc s) (B (rc s)) := hr
    show si s < rl_G (rl_u ct p (ct p + 1)) (rl_gC g p (ct p) (iv p + 1)) (rl_u iv p (iv p + 1)) (sd s) (B (sd s))
    rw [hgB _ h.2.2.1] at hr'
    rw [hgB _ h.2.1]
    exact cB s hs h2 hr'
end
