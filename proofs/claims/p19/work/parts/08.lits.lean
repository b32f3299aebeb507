theorem rl_lt0 {a : Nat} (h : a < 2 ^ 31) : nI a < 0 ↔ False := ⟨fun z => nI_pos h z, False.elim⟩
theorem rl_0le {a : Nat} (h : a < 2 ^ 31) : (0 : Int32) ≤ nI a ↔ True := ⟨fun _ => trivial, fun _ => nI_pos' h⟩
theorem rl_eq0 {a : Nat} (h : a < 2 ^ 31) : nI a = 0 ↔ a = 0 := nI_eq (b := 0) h (by decide)
theorem rl_eq1 {a : Nat} (h : a < 2 ^ 31) : nI a = 1 ↔ a = 1 := nI_eq (b := 1) h (by decide)
theorem rl_eq2 {a : Nat} (h : a < 2 ^ 31) : nI a = 2 ↔ a = 2 := nI_eq (b := 2) h (by decide)
theorem rl_ge {x : Int32} (b : Nat) (hx : x = nI b) (hb : b < 2 ^ 31) {a : Nat} (h : a < 2 ^ 31) : x ≤ nI a ↔ b ≤ a := by
  rw [hx]; exact nI_leI hb h
theorem rl_99 {a : Nat} (h : a < 2 ^ 31) : (99 : Int32) ≤ nI a ↔ 99 ≤ a := rl_ge 99 rfl (by decide) h
theorem rl_33 {a : Nat} (h : a < 2 ^ 31) : (33 : Int32) ≤ nI a ↔ 33 ≤ a := rl_ge 33 rfl (by decide) h
theorem rl_32 {a : Nat} (h : a < 2 ^ 31) : (32 : Int32) ≤ nI a ↔ 32 ≤ a := rl_ge 32 rfl (by decide) h
theorem rl_400 {a : Nat} (h : a < 2 ^ 31) : (400 : Int32) ≤ nI a ↔ 400 ≤ a := rl_ge 400 rfl (by decide) h
theorem rl_6561 {a : Nat} (h : a < 2 ^ 31) : (6561 : Int32) ≤ nI a ↔ 6561 ≤ a := rl_ge 6561 rfl (by decide) h
theorem rl_99l {a : Nat} (h : a < 2 ^ 31) : nI a ≤ (99 : Int32) ↔ a ≤ 99 := nI_leI (b := 99) h (by decide)
theorem rl_99g {a : Nat} (h : a < 2 ^ 31) : (99 : Int32) < nI a ↔ 99 < a := nI_ltI (a := 99) (by decide) h
theorem rl_m1 (a : Nat) : nI (a + 1) + (-1) = nI a := pk_m1 a
theorem rl_m8 (a : Nat) : nI a * 8 = nI (a * 8) := pk_mul a 8
theorem rl_m100 (a : Nat) : nI a * 100 = nI (a * 100) := pk_mul a 100
theorem rl_vb0 : vp_nar .boolean 0 = 0 := by decide
theorem rl_vb1 : vp_nar .boolean 1 = 1 := by decide
theorem rl_nb01 {z : Int32} (h : z = 0 ∨ z = 1) : narrow .boolean (.int z) = .int z := by
  rcases h with rfl | rfl <;> decide
theorem rl_ne4 {a : Nat} (h : a < 2 ^ 31) : ¬ nI a = -4 := by
  intro z
  have h1 : (nI a).toInt = (-4 : Int32).toInt := by rw [z]
  rw [nI_toInt h] at h1
  have h2 : (-4 : Int32).toInt = -4 := by decide
  omega
theorem rl_10 : (1 : Int32) = 0 ↔ False := ⟨fun h => absurd h (by decide), False.elim⟩
theorem rl_n10 : (-1 : Int32) < 0 ↔ True := ⟨fun _ => trivial, fun _ => by decide⟩
theorem rl_l99 {a : Nat} (h : a < 2 ^ 31) : nI a < (99 : Int32) ↔ a < 99 := nI_ltI (b := 99) h (by decide)
