section
variable {n c m : Nat} {iv ct st sd rc si ri : Nat → Nat} {g : Nat → Nat → Nat}
/-- all roll back to a line -/
theorem rl_W_recover (hW : rl_W n c m iv ct g st sd rc si ri) {T : Int32} {L : Nat → Nat}
    (hL : rl_IsL n (rl_tp ct T) (rl_C m iv ct g st sd rc si ri) L) {iv' ct' st' : Nat → Nat}
    (h1 : ∀ p, p < n → (L p < ct p → iv' p = g p (L p) ∧ ct' p = L p + 1) ∧ (¬ L p < ct p → iv' p = iv p ∧ ct' p = ct p))
    (h2 : ∀ s, st' s ≤ 2) (h3 : ∀ s, s < m → st' s = 2 → st s = 2 ∧ ri s < rl_G ct g iv (rc s) (L (rc s))) :
    rl_W n c m iv' ct' g st' sd rc si ri := by
  obtain ⟨hb, hS, hM, B, hB, cB⟩ := hW
  have hBL : rl_le n B L := by
    refine hL.2.2 B (fun p hp => ?_) cB
    have := hB p hp
    unfold rl_tp
    split <;> omega
  have hB' : ∀ p, p < n → B p < ct' p := by
    intro p hp
    have e1 := hB p hp
    have e2 := hBL p hp
    by_cases e : L p < ct p
    · have := ((h1 p hp).1 e).2; omega
    · have := ((h1 p hp).2 e).2; omega
  have hG : ∀ p, p < n → rl_G ct' g iv' p (B p) = rl_G ct g iv p (B p) := by
    intro p hp
    rw [rl_G_in (hB' p hp), rl_G_in (hB p hp)]
  refine ⟨hb, fun p hp => ?_, ⟨fun s => ⟨h2 s, (hM.1 s).2⟩, fun s hs e2 => ?_⟩, B, hB', fun s hs e2 hr => ?_⟩
  · obtain ⟨a1, a2, a3, a4, a5⟩ := hS p hp
    by_cases e : L p < ct p
    · obtain ⟨b1, b2⟩ := (h1 p hp).1 e
      rw [b1, b2]
      refine ⟨by omega, by omega, fun j k hj hk => a3 j k hj (by omega), fun k hk => ?_, ?_⟩
      · by_cases q : k = L p
        · rw [q]; exact Nat.le_refl _
        · exact Nat.le_of_lt (a3 k (L p) (by omega) e)
      · have := a4 _ e; omega
    · obtain ⟨b1, b2⟩ := (h1 p hp).2 e
      rw [b1, b2]
      exact ⟨a1, a2, a3, a4, a5⟩
  · obtain ⟨d1, d2⟩ := h3 s hs e2
    have hrc := (hM.1 s).2.2.1
    by_cases e : L (rc s) < ct (rc s)
    · rw [rl_G_in e] at d2
      rw [((h1 _ hrc).1 e).1]
      omega
    · rw [rl_G_now e] at d2
      rw [((h1 _ hrc).2 e).1]
      omega
  · have h := hM.1 s
    have hr' : ri s < rl_G ct' g iv' (rc s) (B (rc s)) := hr
    show si s < rl_G ct' g iv' (sd s) (B (sd s))
    rw [hG _ h.2.2.1] at hr'
    rw [hG _ h.2.1]
    exact cB s hs (h3 s hs e2).1 hr'
/-- what no line needs is dropped: the line of all stays -/
theorem rl_W_reclaim (hW : rl_W n c m iv ct g st sd rc si ri) {T : Int32} {L : Nat → Nat}
    (hL : rl_IsL n (rl_tp ct T) (rl_C m iv ct g st sd rc si ri) L) (hT : ∀ p, p < n → L p < ct p) {ct' : Nat → Nat} {g' f : Nat → Nat → Nat}
    (hc : ∀ p, p < n → ct' p ≤ ct p) (hf : ∀ p, p < n → ∀ j, j < ct' p → f p j < ct p ∧ g' p j = g p (f p j))
    (hm : ∀ p, p < n → ∀ j k, j < k → k < ct' p → f p j < f p k) (hx : ∀ p, p < n → ∃ j, j < ct' p ∧ f p j = L p) :
    rl_W n c m iv ct' g' st sd rc si ri := by
  obtain ⟨hb, hS, hM, _⟩ := hW
  have hx' : ∀ p, ∃ j, p < n → (j < ct' p ∧ f p j = L p) := by
    intro p
    by_cases e : p < n
    · obtain ⟨j, hj⟩ := hx p e
      exact ⟨j, fun _ => hj⟩
    · exact ⟨0, fun z => absurd z e⟩
  obtain ⟨B, hB⟩ := Classical.axiomOfChoice hx'
  have hG : ∀ p, p < n → rl_G ct' g' iv p (B p) = rl_G ct g iv p (L p) := by
    intro p hp
    obtain ⟨e1, e2⟩ := hB p hp
    rw [rl_G_in e1, rl_G_in (hT p hp), (hf p hp _ e1).2, e2]
  refine ⟨hb, fun p hp => ?_, hM, B, fun p hp => (hB p hp).1, fun s hs e2 hr => ?_⟩
  · obtain ⟨a1, a2, a3, a4, a5⟩ := hS p hp
    obtain ⟨j0, hj0, _⟩ := hx p hp
    have h0 := hc p hp
    refine ⟨by omega, by omega, fun j k hj hk => ?_, fun k hk => ?_, a5⟩
    · rw [(hf p hp j (by omega)).2, (hf p hp k hk).2]
      exact a3 _ _ (hm p hp j k hj hk) (hf p hp k hk).1
    · rw [(hf p hp k hk).2]
      exact a4 _ (hf p hp k hk).1
  · have h := hM.1 s
    have hr' : ri s < rl_G ct' g' iv (rc s) (B (rc s)) := hr
    show si s < rl_G ct' g' iv (sd s) (B (sd s))
    rw [hG _ h.2.2.1] at hr'
    rw [hG _ h.2.1]
    exact hL.2.1 s hs e2 hr'
end
/-- sets as sums of 1 << p, by or and by plus -/
def rl_or (c : Nat → Bool) : Nat → Int32
  | 0 => 0
  | i + 1 => if c i = true then rl_or c i ||| ((1 : Int32) <<< (nI i &&& 31)) else rl_or c i
def rl_ad (c : Nat → Bool) : Nat → Int32
  | 0 => 0
  | i + 1 => if c i = true then rl_ad c i + ((1 : Int32) <<< (nI i &&& 31)) else rl_ad c i
theorem rl_or_t {c : Nat → Bool} {i : Nat} (h : c i = true) : rl_or c (i + 1) = rl_or c i ||| ((1 : Int32) <<< (nI i &&& 31)) := if_pos h
theorem rl_or_f {c : Nat → Bool} {i : Nat} (h : ¬ c i = true) : rl_or c (i + 1) = rl_or c i := if_neg h
theorem rl_ad_t {c : Nat → Bool} {i : Nat} (h : c i = true) : rl_ad c (i + 1) = rl_ad c i + ((1 : Int32) <<< (nI i &&& 31)) := if_pos h
theorem rl_ad_f {c : Nat → Bool} {i : Nat} (h : ¬ c i = true) : rl_ad c (i + 1) = rl_ad c i := if_neg h
/-- the set of four flags -/
def rl_s4 (a b d e : Bool) : Int32 := nI ((if a then 1 else 0) + (if b then 2 else 0) + (if d then 4 else 0) + (if e then 8 else 0))
theorem rl_d0 : ∀ a : Bool, (if a = true then (0 : Int32) ||| ((1 : Int32) <<< (nI 0 &&& 31)) else 0) = rl_s4 a false false false ∧ (if a = true then (0 : Int32) + ((1 : Int32) <<< (nI 0 &&& 31)) else 0) = rl_s4 a false false false := by decide +kernel
theorem rl_d1 : ∀ a b : Bool, (if b = true then rl_s4 a false false false ||| ((1 : Int32) <<< (nI 1 &&& 31)) else rl_s4 a false false false) = rl_s4 a b false false ∧ (if b = true then rl_s4 a false false false + ((1 : Int32) <<< (nI 1 &&& 31)) else rl_s4 a false false false) = rl_s4 a b false false := by decide +kernel
theorem rl_d2 : ∀ a b d : Bool, (if d = true then rl_s4 a b false false ||| ((1 : Int32) <<< (nI 2 &&& 31)) else rl_s4 a b false false) = rl_s4 a b d false ∧ (if d = true then rl_s4 a b false false + ((1 : Int32) <<< (nI 2 &&& 31)) else rl_s4 a b false false) = rl_s4 a b d false := by decide +kernel
theorem rl_d3 : ∀ a b d e : Bool, (if e = true then rl_s4 a b d false ||| ((1 : Int32) <<< (nI 3 &&& 31)) else rl_s4 a b d false) = rl_s4 a b d e ∧ (if e = true then rl_s4 a b d false + ((1 : Int32) <<< (nI 3 &&& 31)) else rl_s4 a b d false) = rl_s4 a b d e := by decide +kernel
/-- the flags below i -/
def rl_fl (c : Nat → Bool) (i p : Nat) : Bool := c p && decide (p < i)
theorem rl_o1 (c : Nat → Bool) : rl_or c 1 = rl_s4 (c 0) false false false ∧ rl_ad c 1 = rl_s4 (c 0) false false false := rl_d0 (c 0)
theorem rl_o2 (c : Nat → Bool) : rl_or c 2 = rl_s4 (c 0) (c 1) false false ∧ rl_ad c 2 = rl_s4 (c 0) (c 1) false false := by
  have h := rl_d1 (c 0) (c 1)
  rw [← (rl_o1 c).1] at h
  refine ⟨h.1, ?_⟩
  have h := rl_d1 (c 0) (c 1)
  rw [← (rl_o1 c).2] at h
  exact h.2
theorem rl_o3 (c : Nat → Bool) : rl_or c 3 = rl_s4 (c 0) (c 1) (c 2) false ∧ rl_ad c 3 = rl_s4 (c 0) (c 1) (c 2) false := by
  have h := rl_d2 (c 0) (c 1) (c 2)
  rw [← (rl_o2 c).1] at h
  refine ⟨h.1, ?_⟩
  have h := rl_d2 (c 0) (c 1) (c 2)
  rw [← (rl_o2 c).2] at h
  exact h.2
theorem rl_o4 (c : Nat → Bool) : rl_or c 4 = rl_s4 (c 0) (c 1) (c 2) (c 3) ∧ rl_ad c 4 = rl_s4 (c 0) (c 1) (c 2) (c 3) := by
  have h := rl_d3 (c 0) (c 1) (c 2) (c 3)
  rw [← (rl_o3 c).1] at h
  refine ⟨h.1, ?_⟩
  have h := rl_d3 (c 0) (c 1) (c 2) (c 3)
  rw [← (rl_o3 c).2] at h
  exact h.2
theorem rl_orad (c : Nat → Bool) {n : Nat} (h2 : 2 ≤ n) (h4 : n ≤ 4) : rl_or c n = rl_ad c n := by
  have : n = 2 ∨ n = 3 ∨ n = 4 := by omega
  rcases this with e | e | e <;> subst e
  · rw [(rl_o2 c).1, (rl_o2 c).2]
  · rw [(rl_o3 c).1, (rl_o3 c).2]
  · rw [(rl_o4 c).1, (rl_o4 c).2]
theorem rl_b0 : ∀ b d e : Bool, ¬ (rl_s4 true b d e &&& ((1 : Int32) <<< (nI 0 &&& 31))) = 0 := by decide +kernel
theorem rl_b1 : ∀ b d e : Bool, ¬ (rl_s4 b true d e &&& ((1 : Int32) <<< (nI 1 &&& 31))) = 0 := by decide +kernel
theorem rl_b2 : ∀ b d e : Bool, ¬ (rl_s4 b d true e &&& ((1 : Int32) <<< (nI 2 &&& 31))) = 0 := by decide +kernel
theorem rl_b3 : ∀ b d e : Bool, ¬ (rl_s4 b d e true &&& ((1 : Int32) <<< (nI 3 &&& 31))) = 0 := by decide +kernel
theorem rl_bit (c : Nat → Bool) {n p : Nat} (h2 : 2 ≤ n) (h4 : n ≤ 4) (hp : p < n) (h : c p = true) : ¬ (rl_or c n &&& ((1 : Int32) <<< (nI p &&& 31))) = 0 := by
  have e1 : n = 2 ∨ n = 3 ∨ n = 4 := by omega
  have e2 : p = 0 ∨ p = 1 ∨ p = 2 ∨ p = 3 := by omega
  rcases e2 with e | e | e | e <;> subst e
  · rcases e1 with e | e | e <;> subst e
    · rw [(rl_o2 c).1, h]; exact rl_b0 _ _ _
    · rw [(rl_o3 c).1, h]; exact rl_b0 _ _ _
    · rw [(rl_o4 c).1, h]; exact rl_b0 _ _ _
  · rcases e1 with e | e | e <;> subst e
    · rw [(rl_o2 c).1, h]; exact rl_b1 _ _ _
    · rw [(rl_o3 c).1, h]; exact rl_b1 _ _ _
    · rw [(rl_o4 c).1, h]; exact rl_b1 _ _ _
  · rcases e1 with e | e | e <;> subst e
    · omega
    · rw [(rl_o3 c).1, h]; exact rl_b2 _ _ _
    · rw [(rl_o4 c).1, h]; exact rl_b2 _ _ _
  · rcases e1 with e | e | e <;> subst e
    · omega
    · omega
    · rw [(rl_o4 c).1, h]; exact rl_b3 _ _ _
theorem rl_all2 : ∀ a b : Bool, nI 3 &&& rl_s4 a b false false = rl_s4 a b false false := by decide +kernel
theorem rl_all3 : ∀ a b d : Bool, nI 7 &&& rl_s4 a b d false = rl_s4 a b d false := by decide +kernel
theorem rl_all4 : ∀ a b d e : Bool, nI 15 &&& rl_s4 a b d e = rl_s4 a b d e := by decide +kernel
theorem rl_allb : ∀ n p : Fin 5, 2 ≤ n.val → p.val < n.val → ¬ (nI (2 ^ n.val - 1) &&& ((1 : Int32) <<< (nI p.val &&& 31))) = 0 := by decide +kernel
/-- the set of all holds those that are down, and every process -/
theorem rl_all (c : Nat → Bool) {n : Nat} (h2 : 2 ≤ n) (h4 : n ≤ 4) : nI (2 ^ n - 1) &&& rl_or c n = rl_or c n := by
  have : n = 2 ∨ n = 3 ∨ n = 4 := by omega
  rcases this with e | e | e <;> subst e
  · rw [(rl_o2 c).1]; exact rl_all2 _ _
  · rw [(rl_o3 c).1]; exact rl_all3 _ _ _
  · rw [(rl_o4 c).1]; exact rl_all4 _ _ _ _
theorem rl_allp {n p : Nat} (h2 : 2 ≤ n) (h4 : n ≤ 4) (hp : p < n) : ¬ (nI (2 ^ n - 1) &&& ((1 : Int32) <<< (nI p &&& 31))) = 0 :=
  rl_allb ⟨n, by omega⟩ ⟨p, by omega⟩ h2 hp
theorem rl_1n {n : Nat} (h2 : 2 ≤ n) (h4 : n ≤ 4) : (1 : Int32) <<< (nI n &&& 31) = nI (2 ^ n) := by
  have : n = 2 ∨ n = 3 ∨ n = 4 := by omega
  rcases this with e | e | e <;> subst e <;> decide +kernel
