/-- nibble i of a long -/
def nk_v (h : Int64) (i : Nat) : Nat := h.toBitVec.toNat / 2 ^ (4 * i) % 16
theorem nk_lt (h : Int64) (i : Nat) : nk_v h i < 16 := Nat.mod_lt _ (by omega)
theorem nk_lN {N : Nat} (hN : N < 2 ^ 64) (i : Nat) : nk_v (lN N) i = N / 2 ^ (4 * i) % 16 := by
  unfold nk_v
  rw [wb_tn hN]
theorem nk_0 (i : Nat) : nk_v 0 i = 0 := by
  have : nk_v (lN 0) i = 0 / 2 ^ (4 * i) % 16 := nk_lN (by decide) i
  rw [Nat.zero_div] at this
  exact this
theorem nk_4 (i : Nat) : (4 : Int32) * nI i = nI (4 * i) := pk_mul 4 i
theorem nk_nib (h : Int64) {i : Nat} (hi : i < 16) : ((h.toUInt64 >>> ((4 * nI i).toInt64.toUInt64 &&& Int64.toUInt64 63)).toInt64 &&& 15).toInt32 = nI (nk_v h i) := by
  obtain ⟨N, hN, rfl⟩ := wb_of h
  rw [nk_4, wb_shr hN (by omega), nk_lN hN]
  have h2 : N / 2 ^ (4 * i) < 2 ^ 64 := Nat.lt_of_le_of_lt (Nat.div_le_self _ _) hN
  have h3 : lN (N / 2 ^ (4 * i)) &&& 15 = lN (N / 2 ^ (4 * i) % 16) := wb_mask (k := 4) h2 (by decide)
  rw [h3, lN_i]
theorem nk_bit {N : Nat} (hN : N < 2 ^ 64) (i t : Nat) : (nk_v (lN N) i).testBit t = (decide (t < 4) && N.testBit (4 * i + t)) := by
  rw [nk_lN hN, show (16 : Nat) = 2 ^ 4 from rfl, Nat.testBit_mod_two_pow, ← Nat.shiftRight_eq_div_pow, Nat.testBit_shiftRight]
/-- the nibbles of two longs are the same where the bits are -/
theorem nk_ext {N M : Nat} (hN : N < 2 ^ 64) (hM : M < 2 ^ 64) {i j : Nat} (h : ∀ t, t < 4 → N.testBit (4 * i + t) = M.testBit (4 * j + t)) : nk_v (lN N) i = nk_v (lN M) j := by
  apply Nat.eq_of_testBit_eq
  intro t
  rw [nk_bit hN, nk_bit hM]
  by_cases ht : t < 4
  · rw [h t ht]
  · simp [ht]
theorem nk_bits (h : Int64) : ∃ N, N < 2 ^ 64 ∧ h = lN N ∧ ∀ k, h.toBitVec.getLsbD k = N.testBit k := by
  obtain ⟨N, hN, rfl⟩ := wb_of h
  refine ⟨N, hN, rfl, fun k => ?_⟩
  show (lN N).toBitVec.toNat.testBit k = N.testBit k
  rw [wb_tn hN]
theorem nk_m1 (k : Nat) (hk : k < 64) : (-1 : Int64).toBitVec.getLsbD k = true := by
  have h : (-1 : Int64).toBitVec = BitVec.allOnes 64 := by decide
  rw [h, BitVec.getLsbD_allOnes]
  exact decide_eq_true hk
theorem nk_setb (h : Int64) {i v : Nat} (hi : i < 16) (hv : v < 16) {k : Nat} (hk : k < 64) :
    ((h &&& (((15 : Int64) <<< ((4 * nI i).toInt64 &&& 63)) ^^^ (-1))) ||| ((nI v).toInt64 <<< ((4 * nI i).toInt64 &&& 63))).toBitVec.getLsbD k =
      ((h.toBitVec.getLsbD k && !(decide (4 * i ≤ k) && decide (k - 4 * i < 4))) || (decide (4 * i ≤ k) && v.testBit (k - 4 * i))) := by
  rw [nk_4]
  have e1 : (15 : Int64) <<< ((nI (4 * i)).toInt64 &&& 63) = lN (15 * 2 ^ (4 * i)) := wb_shl 15 (by omega)
  have e2 : (nI v).toInt64 = lN v := nI_l (by omega)
  rw [e1, e2, wb_shl v (show 4 * i < 64 by omega)]
  rw [Int64.toBitVec_or, Int64.toBitVec_and, Int64.toBitVec_xor, BitVec.getLsbD_or, BitVec.getLsbD_and, BitVec.getLsbD_xor, nk_m1 k hk, wb_tb, wb_tb, BitVec.getLsbD_ofNat, BitVec.getLsbD_ofNat, Nat.testBit_mul_two_pow, Nat.testBit_mul_two_pow]
  have e3 : (15 : Nat).testBit (k - 4 * i) = decide (k - 4 * i < 4) := Nat.testBit_two_pow_sub_one 4 _
  rw [e3]
  simp [hk]
theorem nk_set (h : Int64) {i v : Nat} (hi : i < 16) (hv : v < 16) {j : Nat} (hj : j < 16) :
    nk_v ((h &&& (((15 : Int64) <<< ((4 * nI i).toInt64 &&& 63)) ^^^ (-1))) ||| ((nI v).toInt64 <<< ((4 * nI i).toInt64 &&& 63))) j = if j = i then v else nk_v h j := by
  have hb := fun k (hk : k < 64) => nk_setb h hi hv hk
  obtain ⟨M, hM, eM, bM⟩ := nk_bits ((h &&& (((15 : Int64) <<< ((4 * nI i).toInt64 &&& 63)) ^^^ (-1))) ||| ((nI v).toInt64 <<< ((4 * nI i).toInt64 &&& 63)))
  obtain ⟨N, hN, eN, bN⟩ := nk_bits h
  by_cases e : j = i
  · rw [if_pos e, eM]
    apply Nat.eq_of_testBit_eq
    intro t
    rw [nk_bit hM]
    by_cases ht : t < 4
    · rw [← bM, hb _ (by omega), e]
      have a1 : 4 * i ≤ 4 * i + t := by omega
      have a2 : 4 * i + t - 4 * i = t := by omega
      rw [a2]
      simp [ht]
    · have hvt : v.testBit t = false := Nat.testBit_lt_two_pow (Nat.lt_of_lt_of_le (show v < 2 ^ 4 from hv) (Nat.pow_le_pow_right (by omega) (by omega)))
      rw [hvt]
      simp [ht]
  · rw [if_neg e, eM, eN]
    refine nk_ext hM hN (fun t ht => ?_)
    rw [← bM, ← bN, hb _ (by omega)]
    by_cases l : 4 * i ≤ 4 * j + t
    · have a1 : ¬ 4 * j + t - 4 * i < 4 := by omega
      have hvt : v.testBit (4 * j + t - 4 * i) = false := Nat.testBit_lt_two_pow (Nat.lt_of_lt_of_le (show v < 2 ^ 4 from hv) (Nat.pow_le_pow_right (by omega) (by omega)))
      rw [hvt]
      simp [a1]
    · simp [l]
theorem nk_keep (h : Int64) {x : Nat} (hx : x < 16) {j : Nat} (hj : j < 16) : nk_v (h &&& (((1 : Int64) <<< ((4 * nI x).toInt64 &&& 63)) - 1)) j = if j < x then nk_v h j else 0 := by
  obtain ⟨N, hN, rfl⟩ := wb_of h
  have e1 : (1 : Int64) <<< ((nI (4 * x)).toInt64 &&& 63) = lN (1 * 2 ^ (4 * x)) := wb_shl 1 (by omega)
  have hp : 1 ≤ 2 ^ (4 * x) := Nat.pow_pos (by omega)
  have e2 : lN (2 ^ (4 * x)) - 1 = lN (2 ^ (4 * x) - 1) := lN_sub hp
  rw [nk_4, e1, Nat.one_mul, e2, wb_mask hN (by omega)]
  have hM : N % 2 ^ (4 * x) < 2 ^ 64 := Nat.lt_of_le_of_lt (Nat.mod_le _ _) hN
  by_cases l : j < x
  · rw [if_pos l]
    refine nk_ext hM hN (fun t ht => ?_)
    rw [Nat.testBit_mod_two_pow]
    have : 4 * j + t < 4 * x := by omega
    simp [this]
  · rw [if_neg l, nk_lN hM]
    have h1 : N % 2 ^ (4 * x) < 2 ^ (4 * x) := Nat.mod_lt _ hp
    have h2 : 2 ^ (4 * x) ≤ 2 ^ (4 * j) := Nat.pow_le_pow_right (by omega) (by omega)
    rw [Nat.div_eq_of_lt (Nat.lt_of_lt_of_le h1 h2)]
theorem nk_or32 (a b : Nat) : nI a ||| nI b = nI (a ||| b) := by
  apply Int32.toBitVec_inj.1
  show BitVec.ofNat 32 a ||| BitVec.ofNat 32 b = BitVec.ofNat 32 (a ||| b)
  apply BitVec.eq_of_getLsbD_eq
  intro i hi
  simp [hi]
theorem nk_or4 {a b : Nat} (ha : a < 2 ^ 4) : a ||| b * 16 = b * 16 + a := by
  have := Nat.two_pow_add_eq_or_of_lt ha b
  rw [Nat.or_comm, Nat.mul_comm b 16]
  exact this.symm
theorem nk_or8 {a b : Nat} (ha : a < 2 ^ 8) : a ||| b * 256 = b * 256 + a := by
  have := Nat.two_pow_add_eq_or_of_lt ha b
  rw [Nat.or_comm, Nat.mul_comm b 256]
  exact this.symm
theorem nk_or12 {a b : Nat} (ha : a < 2 ^ 12) : a ||| b * 4096 = b * 4096 + a := by
  have := Nat.two_pow_add_eq_or_of_lt ha b
  rw [Nat.or_comm, Nat.mul_comm b 4096]
  exact this.symm
/-- four numbers below 16 in one long -/
theorem nk_pack {a b c d : Nat} (ha : a < 16) (hb : b < 16) (hc : c < 16) (hd : d < 16) :
    ∃ z, (((nI a ||| (nI b <<< ((4 : Int32) &&& 31))) ||| (nI c <<< ((8 : Int32) &&& 31))) ||| (nI d <<< ((12 : Int32) &&& 31))).toInt64 = z ∧ nk_v z 0 = a ∧ nk_v z 1 = b ∧ nk_v z 2 = c ∧ nk_v z 3 = d := by
  refine ⟨_, rfl, ?_⟩
  have e4 : nI b <<< ((4 : Int32) &&& 31) = nI (b * 16) := pk_shlN _ 4 (by decide) (by omega)
  have e8 : nI c <<< ((8 : Int32) &&& 31) = nI (c * 256) := pk_shlN _ 8 (by decide) (by omega)
  have e12 : nI d <<< ((12 : Int32) &&& 31) = nI (d * 4096) := pk_shlN _ 12 (by decide) (by omega)
  rw [e4, e8, e12, nk_or32, nk_or4 (by omega), nk_or32, nk_or8 (by omega), nk_or32, nk_or12 (by omega), nI_l (by omega), nk_lN (by omega), nk_lN (by omega), nk_lN (by omega), nk_lN (by omega)]
  refine ⟨?_, ?_, ?_, ?_⟩
  · show (d * 4096 + (c * 256 + (b * 16 + a))) / 1 % 16 = a
    omega
  · show (d * 4096 + (c * 256 + (b * 16 + a))) / 16 % 16 = b
    omega
  · show (d * 4096 + (c * 256 + (b * 16 + a))) / 256 % 16 = c
    omega
  · show (d * 4096 + (c * 256 + (b * 16 + a))) / 4096 % 16 = d
    omega
