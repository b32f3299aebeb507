/-- f lists, rising, the places below k that are needed -/
def rl_Sub (nd : Nat → Bool) (k kept : Nat) (f : Nat → Nat) : Prop :=
  (∀ j, j < kept → f j < k ∧ nd (f j) = true) ∧ (∀ i j, i < j → j < kept → f i < f j) ∧ (∀ i, i < k → nd i = true → ∃ j, j < kept ∧ f j = i) ∧ kept ≤ k
theorem rl_Sub_0 (nd : Nat → Bool) (f : Nat → Nat) : rl_Sub nd 0 0 f :=
  ⟨fun j hj => by omega, fun i j _ hj => by omega, fun i hi => by omega, Nat.le_refl _⟩
theorem rl_Sub_t {nd : Nat → Bool} {k kept : Nat} {f : Nat → Nat} (h : rl_Sub nd k kept f) (e : nd k = true) : rl_Sub nd (k + 1) (kept + 1) (rl_u f kept k) := by
  obtain ⟨h1, h2, h3, h4⟩ := h
  refine ⟨fun j hj => ?_, fun i j hij hj => ?_, fun i hi hn => ?_, by omega⟩
  · by_cases q : j = kept
    · rw [q, rl_us]; exact ⟨by omega, e⟩
    · rw [rl_un q]
      have := h1 j (by omega)
      exact ⟨by omega, this.2⟩
  · have hi : i ≠ kept := by omega
    rw [rl_un hi]
    by_cases q : j = kept
    · rw [q, rl_us]; exact (h1 i (by omega)).1
    · rw [rl_un q]; exact h2 i j hij (by omega)
  · by_cases q : i = k
    · exact ⟨kept, by omega, by rw [rl_us, q]⟩
    · obtain ⟨j, hj, ej⟩ := h3 i (by omega) hn
      refine ⟨j, by omega, ?_⟩
      rw [rl_un (by omega)]
      exact ej
theorem rl_Sub_f {nd : Nat → Bool} {k kept : Nat} {f : Nat → Nat} (h : rl_Sub nd k kept f) (e : ¬ nd k = true) : rl_Sub nd (k + 1) kept f := by
  obtain ⟨h1, h2, h3, h4⟩ := h
  refine ⟨fun j hj => ?_, h2, fun i hi hn => ?_, by omega⟩
  · have := h1 j hj
    exact ⟨by omega, this.2⟩
  · by_cases q : i = k
    · rw [q] at hn; exact absurd hn e
    · exact h3 i (by omega) hn
/-- place k of p is in a line of a set below J that holds D -/
def rl_Nd (D : Int32) (Ls : Int32 → Nat → Nat) (J p k : Nat) : Prop := ∃ j, j < J ∧ (nI j &&& D) = D ∧ Ls (nI j) p = k
theorem rl_Nd_0 {D : Int32} {Ls : Int32 → Nat → Nat} {p k : Nat} : ¬ rl_Nd D Ls 0 p k := by
  rintro ⟨j, hj, _⟩; omega
theorem rl_Nd_t {D : Int32} {Ls : Int32 → Nat → Nat} {J p k : Nat} (h : (nI J &&& D) = D) : rl_Nd D Ls (J + 1) p k ↔ rl_Nd D Ls J p k ∨ Ls (nI J) p = k := by
  constructor
  · rintro ⟨j, hj, h1, h2⟩
    by_cases e : j = J
    · rw [e] at h2; exact Or.inr h2
    · exact Or.inl ⟨j, by omega, h1, h2⟩
  · rintro (⟨j, hj, h1, h2⟩ | h2)
    · exact ⟨j, by omega, h1, h2⟩
    · exact ⟨J, by omega, h, h2⟩
theorem rl_Nd_f {D : Int32} {Ls : Int32 → Nat → Nat} {J p k : Nat} (h : ¬ (nI J &&& D) = D) : rl_Nd D Ls (J + 1) p k ↔ rl_Nd D Ls J p k := by
  constructor
  · rintro ⟨j, hj, h1, h2⟩
    by_cases e : j = J
    · rw [e] at h1; exact absurd h1 h
    · exact ⟨j, by omega, h1, h2⟩
  · rintro ⟨j, hj, h1, h2⟩
    exact ⟨j, by omega, h1, h2⟩
/-- the receipt of slot s lies below the lines (x: their numbers) of all sets below J that hold D -/
def rl_Se (D : Int32) (x : Int32 → Nat → Nat) (st rc ri : Nat → Nat) (J s : Nat) : Prop := st s = 2 ∧ ∀ j, j < J → (nI j &&& D) = D → ri s < x (nI j) (rc s)
theorem rl_Se_0 {D : Int32} {x : Int32 → Nat → Nat} {st rc ri : Nat → Nat} {s : Nat} : rl_Se D x st rc ri 0 s ↔ st s = 2 :=
  ⟨fun h => h.1, fun h => ⟨h, fun j hj => by omega⟩⟩
theorem rl_Se_t {D : Int32} {x : Int32 → Nat → Nat} {st rc ri : Nat → Nat} {J s : Nat} (h : (nI J &&& D) = D) :
    rl_Se D x st rc ri (J + 1) s ↔ rl_Se D x st rc ri J s ∧ ri s < x (nI J) (rc s) := by
  constructor
  · rintro ⟨h1, h2⟩
    exact ⟨⟨h1, fun j hj hd => h2 j (by omega) hd⟩, h2 J (by omega) h⟩
  · rintro ⟨⟨h1, h2⟩, h3⟩
    refine ⟨h1, fun j hj hd => ?_⟩
    by_cases e : j = J
    · rw [e]; exact h3
    · exact h2 j (by omega) hd
theorem rl_Se_f {D : Int32} {x : Int32 → Nat → Nat} {st rc ri : Nat → Nat} {J s : Nat} (h : ¬ (nI J &&& D) = D) :
    rl_Se D x st rc ri (J + 1) s ↔ rl_Se D x st rc ri J s := by
  constructor
  · rintro ⟨h1, h2⟩
    exact ⟨h1, fun j hj hd => h2 j (by omega) hd⟩
  · rintro ⟨h1, h2⟩
    refine ⟨h1, fun j hj hd => ?_⟩
    by_cases e : j = J
    · rw [e] at hd; exact absurd hd h
    · exact h2 j (by omega) hd
