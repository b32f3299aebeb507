theorem wl_putH {post : Int64 → Prop} {u : St0} {z0 : Int32} {h : Int64} {H : Nat → Nat → Nat → Nat} {w r s r0 s0 j v : Nat} (hj : j < 16) (hv : v < 16) (hr : r < 4) (hs : s < 4) (hs0 : s0 < 4) (hw : w = r * 4 + s)
    (hh : ∀ i, i < 16 → nk_v h i = H r0 s0 i) (hz : (z0 = 1 ∧ w = r0 * 4 + s0) ∨ (z0 = 0 ∧ w ≠ r0 * 4 + s0)) (k : ∀ z, (∀ i, i < 16 → nk_v z i = rq_put H r s j v r0 s0 i) → post z) : wpL_put post u z0 h (nI j) (nI v) := by
  have hl := nk_lt h j
  unfold wpL_put
  rcases hz with ⟨e, e2⟩ | ⟨e, e2⟩
  · rw [e]
    have er : r0 = r := by omega
    have es : s0 = s := by omega
    refine br_f (by decide) ?_
    refine wl_nib hj ?_
    by_cases l : v ≤ nk_v h j
    · refine br_t (nI_le l (by omega)) ?_
      refine k h (fun i hi => ?_)
      unfold rq_put
      rw [hh j hj, er, es] at l
      rw [if_neg (fun y => by omega)]
      exact hh i hi
    · refine br_f (nI_ge (by omega) (by omega)) ?_
      refine wl_set hj hv (fun z hz => ?_)
      refine k z (fun i hi => ?_)
      rw [hz i hi]
      rw [hh j hj, er, es] at l
      unfold rq_put
      by_cases q : i = j
      · rw [if_pos q, if_pos ⟨⟨er, es, q⟩, by omega⟩]
      · rw [if_neg q, if_neg (fun y => q y.1.2.2)]
        exact hh i hi
  · rw [e]
    refine br_t rfl ?_
    refine k h (fun i hi => ?_)
    unfold rq_put
    rw [if_neg (fun y => e2 (by rw [hw, y.1.1, y.1.2.1]))]
    exact hh i hi
section
variable {n c m : Nat} {iv ct st sd rc si ri : Nat → Nat} {g : Nat → Nat → Nat}
variable {vX IV U CT NB SV ST SD RC PL SI RI LN ND SE : Nat → Int32}
variable {post : Int32 → Prop} {L kc ks kk : Nat} {xs : Nat → Int32} {x1 dn : Int32} {zI zS zW zN zR a1 a2 a3 b0 b2 b3 c0 c1 c3 d0 d1 d2 : Int64} {H : Nat → Nat → Nat → Nat}
theorem lq_747 {J : Int64 → Int64 → Int64 → Int64 → Int64 → Int64 → Int64 → Int64 → Int64 → Int64 → Int64 → Int64 → Int64 → Int64 → Int64 → Int64 → Int64 → Int32 → Int32 → Int32 → Int32 → Int32 → (Nat → Int32) → (Nat → Int32) → (Nat → Int32) → (Nat → Int32) → (Nat → Int32) → (Nat → Int32) → (Nat → Int32) → (Nat → Int32) → (Nat → Int32) → (Nat → Int32) → (Nat → Int32) → (Nat → Int32) → (Nat → Int32) → (Nat → Int32) → (Nat → Int32) → Prop} {w r s j v : Nat} {z0 : Int32} (hj : j < 16) (hv : v < 16) (hr : r < 4) (hs : s < 4) (hw : w = r * 4 + s) (ya1 : ∀ i, i < 16 → nk_v a1 i = rq_put H r s j v 0 1 i) (ya2 : ∀ i, i < 16 → nk_v a2 i = rq_put H r s j v 0 2 i) (ya3 : ∀ i, i < 16 → nk_v a3 i = rq_put H r s j v 0 3 i) (yb0 : ∀ i, i < 16 → nk_v b0 i = rq_put H r s j v 1 0 i) (yb2 : ∀ i, i < 16 → nk_v b2 i = rq_put H r s j v 1 2 i) (yb3 : ∀ i, i < 16 → nk_v b3 i = rq_put H r s j v 1 3 i) (yc0 : ∀ i, i < 16 → nk_v c0 i = rq_put H r s j v 2 0 i) (yc1 : ∀ i, i < 16 → nk_v c1 i = rq_put H r s j v 2 1 i) (yc3 : ∀ i, i < 16 → nk_v c3 i = rq_put H r s j v 2 3 i) (yd0 : ∀ i, i < 16 → nk_v d0 i = rq_put H r s j v 3 0 i) (yd1 : ∀ i, i < 16 → nk_v d1 i = rq_put H r s j v 3 1 i) (yd2 : ∀ i, i < 16 → nk_v d2 i = H 3 2 i)
    (hfin : ∀ a1 a2 a3 b0 b2 b3 c0 c1 c3 d0 d1 d2 : Int64, rq_Hs (rq_put H r s j v) a1 a2 a3 b0 b2 b3 c0 c1 c3 d0 d1 d2 → ∃ fu, wL_law_1332 post L xs J x1 (nI n) (nI m) zI zS zW zN zR a1 a2 a3 b0 b2 b3 c0 c1 c3 d0 d1 d2 dn (nI kk) kc ks (nI n) (nI c) (nI m) vX IV U CT NB SV ST SD RC PL SI RI LN ND SE fu 0)
    (hz : (z0 = 1 ∧ w = 14) ∨ (z0 = 0 ∧ w ≠ 14)) : wL_law_747 post L xs J x1 (nI n) (nI m) zI zS zW zN zR a1 a2 a3 b0 b2 b3 c0 c1 c3 d0 d1 d2 dn (nI kk) (nI j) (nI v) z0 kc ks (nI n) (nI c) (nI m) vX IV U CT NB SV ST SD RC PL SI RI LN ND SE := by
  unfold wL_law_747
  refine wl_putH (r0 := 3) (s0 := 2) hj hv hr hs (by omega) hw yd2 hz (fun z hz2 => ?_)
  exact hfin _ _ _ _ _ _ _ _ _ _ _ _ (fun i hi => ⟨ya1 i hi, ya2 i hi, ya3 i hi, yb0 i hi, yb2 i hi, yb3 i hi, yc0 i hi, yc1 i hi, yc3 i hi, yd0 i hi, yd1 i hi, hz2 i hi⟩)
theorem lq_724 {J : Int64 → Int64 → Int64 → Int64 → Int64 → Int64 → Int64 → Int64 → Int64 → Int64 → Int64 → Int64 → Int64 → Int64 → Int64 → Int64 → Int64 → Int32 → Int32 → Int32 → Int32 → Int32 → (Nat → Int32) → (Nat → Int32) → (Nat → Int32) → (Nat → Int32) → (Nat → Int32) → (Nat → Int32) → (Nat → Int32) → (Nat → Int32) → (Nat → Int32) → (Nat → Int32) → (Nat → Int32) → (Nat → Int32) → (Nat → Int32) → (Nat → Int32) → (Nat → Int32) → Prop} {w r s j v : Nat} {z0 : Int32} (hj : j < 16) (hv : v < 16) (hr : r < 4) (hs : s < 4) (hw : w = r * 4 + s) (ya1 : ∀ i, i < 16 → nk_v a1 i = rq_put H r s j v 0 1 i) (ya2 : ∀ i, i < 16 → nk_v a2 i = rq_put H r s j v 0 2 i) (ya3 : ∀ i, i < 16 → nk_v a3 i = rq_put H r s j v 0 3 i) (yb0 : ∀ i, i < 16 → nk_v b0 i = rq_put H r s j v 1 0 i) (yb2 : ∀ i, i < 16 → nk_v b2 i = rq_put H r s j v 1 2 i) (yb3 : ∀ i, i < 16 → nk_v b3 i = rq_put H r s j v 1 3 i) (yc0 : ∀ i, i < 16 → nk_v c0 i = rq_put H r s j v 2 0 i) (yc1 : ∀ i, i < 16 → nk_v c1 i = rq_put H r s j v 2 1 i) (yc3 : ∀ i, i < 16 → nk_v c3 i = rq_put H r s j v 2 3 i) (yd0 : ∀ i, i < 16 → nk_v d0 i = rq_put H r s j v 3 0 i) (yd1 : ∀ i, i < 16 → nk_v d1 i = H 3 1 i) (yd2 : ∀ i, i < 16 → nk_v d2 i = H 3 2 i)
    (hfin : ∀ a1 a2 a3 b0 b2 b3 c0 c1 c3 d0 d1 d2 : Int64, rq_Hs (rq_put H r s j v) a1 a2 a3 b0 b2 b3 c0 c1 c3 d0 d1 d2 → ∃ fu, wL_law_1332 post L xs J x1 (nI n) (nI m) zI zS zW zN zR a1 a2 a3 b0 b2 b3 c0 c1 c3 d0 d1 d2 dn (nI kk) kc ks (nI n) (nI c) (nI m) vX IV U CT NB SV ST SD RC PL SI RI LN ND SE fu 0)
    (hz : (z0 = 1 ∧ w = 13) ∨ (z0 = 0 ∧ w ≠ 13)) : wL_law_724 post L xs J x1 (nI n) (nI m) zI zS zW zN zR a1 a2 a3 b0 b2 b3 c0 c1 c3 d0 d1 d2 dn (nI kk) (nI w) (nI j) (nI v) z0 kc ks (nI n) (nI c) (nI m) vX IV U CT NB SV ST SD RC PL SI RI LN ND SE := by
  unfold wL_law_724
  refine wl_putH (r0 := 3) (s0 := 1) hj hv hr hs (by omega) hw yd1 hz (fun z hz2 => ?_)
  exact br_c (fun w1 => lq_747 hj hv hr hs hw ya1 ya2 ya3 yb0 yb2 yb3 yc0 yc1 yc3 yd0 hz2 yd2 hfin (Or.inl ⟨rfl, (nI_eq (b := 14) (by omega) (by decide)).mp w1⟩)) (fun w1 => lq_747 hj hv hr hs hw ya1 ya2 ya3 yb0 yb2 yb3 yc0 yc1 yc3 yd0 hz2 yd2 hfin (Or.inr ⟨rfl, fun w2 => w1 (by rw [w2]; rfl)⟩))
theorem lq_701 {J : Int64 → Int64 → Int64 → Int64 → Int64 → Int64 → Int64 → Int64 → Int64 → Int64 → Int64 → Int64 → Int64 → Int64 → Int64 → Int64 → Int64 → Int32 → Int32 → Int32 → Int32 → Int32 → (Nat → Int32) → (Nat → Int32) → (Nat → Int32) → (Nat → Int32) → (Nat → Int32) → (Nat → Int32) → (Nat → Int32) → (Nat → Int32) → (Nat → Int32) → (Nat → Int32) → (Nat → Int32) → (Nat → Int32) → (Nat → Int32) → (Nat → Int32) → (Nat → Int32) → Prop} {w r s j v : Nat} {z0 : Int32} (hj : j < 16) (hv : v < 16) (hr : r < 4) (hs : s < 4) (hw : w = r * 4 + s) (ya1 : ∀ i, i < 16 → nk_v a1 i = rq_put H r s j v 0 1 i) (ya2 : ∀ i, i < 16 → nk_v a2 i = rq_put H r s j v 0 2 i) (ya3 : ∀ i, i < 16 → nk_v a3 i = rq_put H r s j v 0 3 i) (yb0 : ∀ i, i < 16 → nk_v b0 i = rq_put H r s j v 1 0 i) (yb2 : ∀ i, i < 16 → nk_v b2 i = rq_put H r s j v 1 2 i) (yb3 : ∀ i, i < 16 → nk_v b3 i = rq_put H r s j v 1 3 i) (yc0 : ∀ i, i < 16 → nk_v c0 i = rq_put H r s j v 2 0 i) (yc1 : ∀ i, i < 16 → nk_v c1 i = rq_put H r s j v 2 1 i) (yc3 : ∀ i, i < 16 → nk_v c3 i = rq_put H r s j v 2 3 i) (yd0 : ∀ i, i < 16 → nk_v d0 i = H 3 0 i) (yd1 : ∀ i, i < 16 → nk_v d1 i = H 3 1 i) (yd2 : ∀ i, i < 16 → nk_v d2 i = H 3 2 i)
    (hfin : ∀ a1 a2 a3 b0 b2 b3 c0 c1 c3 d0 d1 d2 : Int64, rq_Hs (rq_put H r s j v) a1 a2 a3 b0 b2 b3 c0 c1 c3 d0 d1 d2 → ∃ fu, wL_law_1332 post L xs J x1 (nI n) (nI m) zI zS zW zN zR a1 a2 a3 b0 b2 b3 c0 c1 c3 d0 d1 d2 dn (nI kk) kc ks (nI n) (nI c) (nI m) vX IV U CT NB SV ST SD RC PL SI RI LN ND SE fu 0)
    (hz : (z0 = 1 ∧ w = 12) ∨ (z0 = 0 ∧ w ≠ 12)) : wL_law_701 post L xs J x1 (nI n) (nI m) zI zS zW zN zR a1 a2 a3 b0 b2 b3 c0 c1 c3 d0 d1 d2 dn (nI kk) (nI w) (nI j) (nI v) z0 kc ks (nI n) (nI c) (nI m) vX IV U CT NB SV ST SD RC PL SI RI LN ND SE := by
  unfold wL_law_701
  refine wl_putH (r0 := 3) (s0 := 0) hj hv hr hs (by omega) hw yd0 hz (fun z hz2 => ?_)
  exact br_c (fun w1 => lq_724 hj hv hr hs hw ya1 ya2 ya3 yb0 yb2 yb3 yc0 yc1 yc3 hz2 yd1 yd2 hfin (Or.inl ⟨rfl, (nI_eq (b := 13) (by omega) (by decide)).mp w1⟩)) (fun w1 => lq_724 hj hv hr hs hw ya1 ya2 ya3 yb0 yb2 yb3 yc0 yc1 yc3 hz2 yd1 yd2 hfin (Or.inr ⟨rfl, fun w2 => w1 (by rw [w2]; rfl)⟩))
theorem lq_678 {J : Int64 → Int64 → Int64 → Int64 → Int64 → Int64 → Int64 → Int64 → Int64 → Int64 → Int64 → Int64 → Int64 → Int64 → Int64 → Int64 → Int64 → Int32 → Int32 → Int32 → Int32 → Int32 → (Nat → Int32) → (Nat → Int32) → (Nat → Int32) → (Nat → Int32) → (Nat → Int32) → (Nat → Int32) → (Nat → Int32) → (Nat → Int32) → (Nat → Int32) → (Nat → Int32) → (Nat → Int32) → (Nat → Int32) → (Nat → Int32) → (Nat → Int32) → (Nat → Int32) → Prop} {w r s j v : Nat} {z0 : Int32} (hj : j < 16) (hv : v < 16) (hr : r < 4) (hs : s < 4) (hw : w = r * 4 + s) (ya1 : ∀ i, i < 16 → nk_v a1 i = rq_put H r s j v 0 1 i) (ya2 : ∀ i, i < 16 → nk_v a2 i = rq_put H r s j v 0 2 i) (ya3 : ∀ i, i < 16 → nk_v a3 i = rq_put H r s j v 0 3 i) (yb0 : ∀ i, i < 16 → nk_v b0 i = rq_put H r s j v 1 0 i) (yb2 : ∀ i, i < 16 → nk_v b2 i = rq_put H r s j v 1 2 i) (yb3 : ∀ i, i < 16 → nk_v b3 i = rq_put H r s j v 1 3 i) (yc0 : ∀ i, i < 16 → nk_v c0 i = rq_put H r s j v 2 0 i) (yc1 : ∀ i, i < 16 → nk_v c1 i = rq_put H r s j v 2 1 i) (yc3 : ∀ i, i < 16 → nk_v c3 i = H 2 3 i) (yd0 : ∀ i, i < 16 → nk_v d0 i = H 3 0 i) (yd1 : ∀ i, i < 16 → nk_v d1 i = H 3 1 i) (yd2 : ∀ i, i < 16 → nk_v d2 i = H 3 2 i)
    (hfin : ∀ a1 a2 a3 b0 b2 b3 c0 c1 c3 d0 d1 d2 : Int64, rq_Hs (rq_put H r s j v) a1 a2 a3 b0 b2 b3 c0 c1 c3 d0 d1 d2 → ∃ fu, wL_law_1332 post L xs J x1 (nI n) (nI m) zI zS zW zN zR a1 a2 a3 b0 b2 b3 c0 c1 c3 d0 d1 d2 dn (nI kk) kc ks (nI n) (nI c) (nI m) vX IV U CT NB SV ST SD RC PL SI RI LN ND SE fu 0)
    (hz : (z0 = 1 ∧ w = 11) ∨ (z0 = 0 ∧ w ≠ 11)) : wL_law_678 post L xs J x1 (nI n) (nI m) zI zS zW zN zR a1 a2 a3 b0 b2 b3 c0 c1 c3 d0 d1 d2 dn (nI kk) (nI w) (nI j) (nI v) z0 kc ks (nI n) (nI c) (nI m) vX IV U CT NB SV ST SD RC PL SI RI LN ND SE := by
  unfold wL_law_678
  refine wl_putH (r0 := 2) (s0 := 3) hj hv hr hs (by omega) hw yc3 hz (fun z hz2 => ?_)
  exact br_c (fun w1 => lq_701 hj hv hr hs hw ya1 ya2 ya3 yb0 yb2 yb3 yc0 yc1 hz2 yd0 yd1 yd2 hfin (Or.inl ⟨rfl, (nI_eq (b := 12) (by omega) (by decide)).mp w1⟩)) (fun w1 => lq_701 hj hv hr hs hw ya1 ya2 ya3 yb0 yb2 yb3 yc0 yc1 hz2 yd0 yd1 yd2 hfin (Or.inr ⟨rfl, fun w2 => w1 (by rw [w2]; rfl)⟩))
theorem lq_655 {J : Int64 → Int64 → Int64 → Int64 → Int64 → Int64 → Int64 → Int64 → Int64 → Int64 → Int64 → Int64 → Int64 → Int64 → Int64 → Int64 → Int64 → Int32 → Int32 → Int32 → Int32 → Int32 → (Nat → Int32) → (Nat → Int32) → (Nat → Int32) → (Nat → Int32) → (Nat → Int32) → (Nat → Int32) → (Nat → Int32) → (Nat → Int32) → (Nat → Int32) → (Nat → Int32) → (Nat → Int32) → (Nat → Int32) → (Nat → Int32) → (Nat → Int32) → (Nat → Int32) → Prop} {w r s j v : Nat} {z0 : Int32} (hj : j < 16) (hv : v < 16) (hr : r < 4) (hs : s < 4) (hw : w = r * 4 + s) (ya1 : ∀ i, i < 16 → nk_v a1 i = rq_put H r s j v 0 1 i) (ya2 : ∀ i, i < 16 → nk_v a2 i = rq_put H r s j v 0 2 i) (ya3 : ∀ i, i < 16 → nk_v a3 i = rq_put H r s j v 0 3 i) (yb0 : ∀ i, i < 16 → nk_v b0 i = rq_put H r s j v 1 0 i) (yb2 : ∀ i, i < 16 → nk_v b2 i = rq_put H r s j v 1 2 i) (yb3 : ∀ i, i < 16 → nk_v b3 i = rq_put H r s j v 1 3 i) (yc0 : ∀ i, i < 16 → nk_v c0 i = rq_put H r s j v 2 0 i) (yc1 : ∀ i, i < 16 → nk_v c1 i = H 2 1 i) (yc3 : ∀ i, i < 16 → nk_v c3 i = H 2 3 i) (yd0 : ∀ i, i < 16 → nk_v d0 i = H 3 0 i) (yd1 : ∀ i, i < 16 → nk_v d1 i = H 3 1 i) (yd2 : ∀ i, i < 16 → nk_v d2 i = H 3 2 i)
    (hfin : ∀ a1 a2 a3 b0 b2 b3 c0 c1 c3 d0 d1 d2 : Int64, rq_Hs (rq_put H r s j v) a1 a2 a3 b0 b2 b3 c0 c1 c3 d0 d1 d2 → ∃ fu, wL_law_1332 post L xs J x1 (nI n) (nI m) zI zS zW zN zR a1 a2 a3 b0 b2 b3 c0 c1 c3 d0 d1 d2 dn (nI kk) kc ks (nI n) (nI c) (nI m) vX IV U CT NB SV ST SD RC PL SI RI LN ND SE fu 0)
    (hz : (z0 = 1 ∧ w = 9) ∨ (z0 = 0 ∧ w ≠ 9)) : wL_law_655 post L xs J x1 (nI n) (nI m) zI zS zW zN zR a1 a2 a3 b0 b2 b3 c0 c1 c3 d0 d1 d2 dn (nI kk) (nI w) (nI j) (nI v) z0 kc ks (nI n) (nI c) (nI m) vX IV U CT NB SV ST SD RC PL SI RI LN ND SE := by
  unfold wL_law_655
  refine wl_putH (r0 := 2) (s0 := 1) hj hv hr hs (by omega) hw yc1 hz (fun z hz2 => ?_)
  exact br_c (fun w1 => lq_678 hj hv hr hs hw ya1 ya2 ya3 yb0 yb2 yb3 yc0 hz2 yc3 yd0 yd1 yd2 hfin (Or.inl ⟨rfl, (nI_eq (b := 11) (by omega) (by decide)).mp w1⟩)) (fun w1 => lq_678 hj hv hr hs hw ya1 ya2 ya3 yb0 yb2 yb3 yc0 hz2 yc3 yd0 yd1 yd2 hfin (Or.inr ⟨rfl, fun w2 => w1 (by rw [w2]; rfl)⟩))
theorem lq_632 {J : Int64 → Int64 → Int64 → Int64 → Int64 → Int64 → Int64 → Int64 → Int64 → Int64 → Int64 → Int64 → Int64 → Int64 → Int64 → Int64 → Int64 → Int32 → Int32 → Int32 → Int32 → Int32 → (Nat → Int32) → (Nat → Int32) → (Nat → Int32) → (Nat → Int32) → (Nat → Int32) → (Nat → Int32) → (Nat → Int32) → (Nat → Int32) → (Nat → Int32) → (Nat → Int32) → (Nat → Int32) → (Nat → Int32) → (Nat → Int32) → (Nat → Int32) → (Nat → Int32) → Prop} {w r s j v : Nat} {z0 : Int32} (hj : j < 16) (hv : v < 16) (hr : r < 4) (hs : s < 4) (hw : w = r * 4 + s) (ya1 : ∀ i, i < 16 → nk_v a1 i = rq_put H r s j v 0 1 i) (ya2 : ∀ i, i < 16 → nk_v a2 i = rq_put H r s j v 0 2 i) (ya3 : ∀ i, i < 16 → nk_v a3 i = rq_put H r s j v 0 3 i) (yb0 : ∀ i, i < 16 → nk_v b0 i = rq_put H r s j v 1 0 i) (yb2 : ∀ i, i < 16 → nk_v b2 i = rq_put H r s j v 1 2 i) (yb3 : ∀ i, i < 16 → nk_v b3 i = rq_put H r s j v 1 3 i) (yc0 : ∀ i, i < 16 → nk_v c0 i = H 2 0 i) (yc1 : ∀ i, i < 16 → nk_v c1 i = H 2 1 i) (yc3 : ∀ i, i < 16 → nk_v c3 i = H 2 3 i) (yd0 : ∀ i, i < 16 → nk_v d0 i = H 3 0 i) (yd1 : ∀ i, i < 16 → nk_v d1 i = H 3 1 i) (yd2 : ∀ i, i < 16 → nk_v d2 i = H 3 2 i)
    (hfin : ∀ a1 a2 a3 b0 b2 b3 c0 c1 c3 d0 d1 d2 : Int64, rq_Hs (rq_put H r s j v) a1 a2 a3 b0 b2 b3 c0 c1 c3 d0 d1 d2 → ∃ fu, wL_law_1332 post L xs J x1 (nI n) (nI m) zI zS zW zN zR a1 a2 a3 b0 b2 b3 c0 c1 c3 d0 d1 d2 dn (nI kk) kc ks (nI n) (nI c) (nI m) vX IV U CT NB SV ST SD RC PL SI RI LN ND SE fu 0)
    (hz : (z0 = 1 ∧ w = 8) ∨ (z0 = 0 ∧ w ≠ 8)) : wL_law_632 post L xs J x1 (nI n) (nI m) zI zS zW zN zR a1 a2 a3 b0 b2 b3 c0 c1 c3 d0 d1 d2 dn (nI kk) (nI w) (nI j) (nI v) z0 kc ks (nI n) (nI c) (nI m) vX IV U CT NB SV ST SD RC PL SI RI LN ND SE := by
  unfold wL_law_632
  refine wl_putH (r0 := 2) (s0 := 0) hj hv hr hs (by omega) hw yc0 hz (fun z hz2 => ?_)
  exact br_c (fun w1 => lq_655 hj hv hr hs hw ya1 ya2 ya3 yb0 yb2 yb3 hz2 yc1 yc3 yd0 yd1 yd2 hfin (Or.inl ⟨rfl, (nI_eq (b := 9) (by omega) (by decide)).mp w1⟩)) (fun w1 => lq_655 hj hv hr hs hw ya1 ya2 ya3 yb0 yb2 yb3 hz2 yc1 yc3 yd0 yd1 yd2 hfin (Or.inr ⟨rfl, fun w2 => w1 (by rw [w2]; rfl)⟩))
theorem lq_609 {J : Int64 → Int64 → Int64 → Int64 → Int64 → Int64 → Int64 → Int64 → Int64 → Int64 → Int64 → Int64 → Int64 → Int64 → Int64 → Int64 → Int64 → Int32 → Int32 → Int32 → Int32 → Int32 → (Nat → Int32) → (Nat → Int32) → (Nat → Int32) → (Nat → Int32) → (Nat → Int32) → (Nat → Int32) → (Nat → Int32) → (Nat → Int32) → (Nat → Int32) → (Nat → Int32) → (Nat → Int32) → (Nat → Int32) → (Nat → Int32) → (Nat → Int32) → (Nat → Int32) → Prop} {w r s j v : Nat} {z0 : Int32} (hj : j < 16) (hv : v < 16) (hr : r < 4) (hs : s < 4) (hw : w = r * 4 + s) (ya1 : ∀ i, i < 16 → nk_v a1 i = rq_put H r s j v 0 1 i) (ya2 : ∀ i, i < 16 → nk_v a2 i = rq_put H r s j v 0 2 i) (ya3 : ∀ i, i < 16 → nk_v a3 i = rq_put H r s j v 0 3 i) (yb0 : ∀ i, i < 16 → nk_v b0 i = rq_put H r s j v 1 0 i) (yb2 : ∀ i, i < 16 → nk_v b2 i = rq_put H r s j v 1 2 i) (yb3 : ∀ i, i < 16 → nk_v b3 i = H 1 3 i) (yc0 : ∀ i, i < 16 → nk_v c0 i = H 2 0 i) (yc1 : ∀ i, i < 16 → nk_v c1 i = H 2 1 i) (yc3 : ∀ i, i < 16 → nk_v c3 i = H 2 3 i) (yd0 : ∀ i, i < 16 → nk_v d0 i = H 3 0 i) (yd1 : ∀ i, i < 16 → nk_v d1 i = H 3 1 i) (yd2 : ∀ i, i < 16 → nk_v d2 i = H 3 2 i)
    (hfin : ∀ a1 a2 a3 b0 b2 b3 c0 c1 c3 d0 d1 d2 : Int64, rq_Hs (rq_put H r s j v) a1 a2 a3 b0 b2 b3 c0 c1 c3 d0 d1 d2 → ∃ fu, wL_law_1332 post L xs J x1 (nI n) (nI m) zI zS zW zN zR a1 a2 a3 b0 b2 b3 c0 c1 c3 d0 d1 d2 dn (nI kk) kc ks (nI n) (nI c) (nI m) vX IV U CT NB SV ST SD RC PL SI RI LN ND SE fu 0)
    (hz : (z0 = 1 ∧ w = 7) ∨ (z0 = 0 ∧ w ≠ 7)) : wL_law_609 post L xs J x1 (nI n) (nI m) zI zS zW zN zR a1 a2 a3 b0 b2 b3 c0 c1 c3 d0 d1 d2 dn (nI kk) (nI w) (nI j) (nI v) z0 kc ks (nI n) (nI c) (nI m) vX IV U CT NB SV ST SD RC PL SI RI LN ND SE := by
  unfold wL_law_609
  refine wl_putH (r0 := 1) (s0 := 3) hj hv hr hs (by omega) hw yb3 hz (fun z hz2 => ?_)
  exact br_c (fun w1 => lq_632 hj hv hr hs hw ya1 ya2 ya3 yb0 yb2 hz2 yc0 yc1 yc3 yd0 yd1 yd2 hfin (Or.inl ⟨rfl, (nI_eq (b := 8) (by omega) (by decide)).mp w1⟩)) (fun w1 => lq_632 hj hv hr hs hw ya1 ya2 ya3 yb0 yb2 hz2 yc0 yc1 yc3 yd0 yd1 yd2 hfin (Or.inr ⟨rfl, fun w2 => w1 (by rw [w2]; rfl)⟩))
theorem lq_586 {J : Int64 → Int64 → Int64 → Int64 → Int64 → Int64 → Int64 → Int64 → Int64 → Int64 → Int64 → Int64 → Int64 → Int64 → Int64 → Int64 → Int64 → Int32 → Int32 → Int32 → Int32 → Int32 → (Nat → Int32) → (Nat → Int32) → (Nat → Int32) → (Nat → Int32) → (Nat → Int32) → (Nat → Int32) → (Nat → Int32) → (Nat → Int32) → (Nat → Int32) → (Nat → Int32) → (Nat → Int32) → (Nat → Int32) → (Nat → Int32) → (Nat → Int32) → (Nat → Int32) → Prop} {w r s j v : Nat} {z0 : Int32} (hj : j < 16) (hv : v < 16) (hr : r < 4) (hs : s < 4) (hw : w = r * 4 + s) (ya1 : ∀ i, i < 16 → nk_v a1 i = rq_put H r s j v 0 1 i) (ya2 : ∀ i, i < 16 → nk_v a2 i = rq_put H r s j v 0 2 i) (ya3 : ∀ i, i < 16 → nk_v a3 i = rq_put H r s j v 0 3 i) (yb0 : ∀ i, i < 16 → nk_v b0 i = rq_put H r s j v 1 0 i) (yb2 : ∀ i, i < 16 → nk_v b2 i = H 1 2 i) (yb3 : ∀ i, i < 16 → nk_v b3 i = H 1 3 i) (yc0 : ∀ i, i < 16 → nk_v c0 i = H 2 0 i) (yc1 : ∀ i, i < 16 → nk_v c1 i = H 2 1 i) (yc3 : ∀ i, i < 16 → nk_v c3 i = H 2 3 i) (yd0 : ∀ i, i < 16 → nk_v d0 i = H 3 0 i) (yd1 : ∀ i, i < 16 → nk_v d1 i = H 3 1 i) (yd2 : ∀ i, i < 16 → nk_v d2 i = H 3 2 i)
    (hfin : ∀ a1 a2 a3 b0 b2 b3 c0 c1 c3 d0 d1 d2 : Int64, rq_Hs (rq_put H r s j v) a1 a2 a3 b0 b2 b3 c0 c1 c3 d0 d1 d2 → ∃ fu, wL_law_1332 post L xs J x1 (nI n) (nI m) zI zS zW zN zR a1 a2 a3 b0 b2 b3 c0 c1 c3 d0 d1 d2 dn (nI kk) kc ks (nI n) (nI c) (nI m) vX IV U CT NB SV ST SD RC PL SI RI LN ND SE fu 0)
    (hz : (z0 = 1 ∧ w = 6) ∨ (z0 = 0 ∧ w ≠ 6)) : wL_law_586 post L xs J x1 (nI n) (nI m) zI zS zW zN zR a1 a2 a3 b0 b2 b3 c0 c1 c3 d0 d1 d2 dn (nI kk) (nI w) (nI j) (nI v) z0 kc ks (nI n) (nI c) (nI m) vX IV U CT NB SV ST SD RC PL SI RI LN ND SE := by
  unfold wL_law_586
  refine wl_putH (r0 := 1) (s0 := 2) hj hv hr hs (by omega) hw yb2 hz (fun z hz2 => ?_)
  exact br_c (fun w1 => lq_609 hj hv hr hs hw ya1 ya2 ya3 yb0 hz2 yb3 yc0 yc1 yc3 yd0 yd1 yd2 hfin (Or.inl ⟨rfl, (nI_eq (b := 7) (by omega) (by decide)).mp w1⟩)) (fun w1 => lq_609 hj hv hr hs hw ya1 ya2 ya3 yb0 hz2 yb3 yc0 yc1 yc3 yd0 yd1 yd2 hfin (Or.inr ⟨rfl, fun w2 => w1 (by rw [w2]; rfl)⟩))
theorem lq_563 {J : Int64 → Int64 → Int64 → Int64 → Int64 → Int64 → Int64 → Int64 → Int64 → Int64 → Int64 → Int64 → Int64 → Int64 → Int64 → Int64 → Int64 → Int32 → Int32 → Int32 → Int32 → Int32 → (Nat → Int32) → (Nat → Int32) → (Nat → Int32) → (Nat → Int32) → (Nat → Int32) → (Nat → Int32) → (Nat → Int32) → (Nat → Int32) → (Nat → Int32) → (Nat → Int32) → (Nat → Int32) → (Nat → Int32) → (Nat → Int32) → (Nat → Int32) → (Nat → Int32) → Prop} {w r s j v : Nat} {z0 : Int32} (hj : j < 16) (hv : v < 16) (hr : r < 4) (hs : s < 4) (hw : w = r * 4 + s) (ya1 : ∀ i, i < 16 → nk_v a1 i = rq_put H r s j v 0 1 i) (ya2 : ∀ i, i < 16 → nk_v a2 i = rq_put H r s j v 0 2 i) (ya3 : ∀ i, i < 16 → nk_v a3 i = rq_put H r s j v 0 3 i) (yb0 : ∀ i, i < 16 → nk_v b0 i = H 1 0 i) (yb2 : ∀ i, i < 16 → nk_v b2 i = H 1 2 i) (yb3 : ∀ i, i < 16 → nk_v b3 i = H 1 3 i) (yc0 : ∀ i, i < 16 → nk_v c0 i = H 2 0 i) (yc1 : ∀ i, i < 16 → nk_v c1 i = H 2 1 i) (yc3 : ∀ i, i < 16 → nk_v c3 i = H 2 3 i) (yd0 : ∀ i, i < 16 → nk_v d0 i = H 3 0 i) (yd1 : ∀ i, i < 16 → nk_v d1 i = H 3 1 i) (yd2 : ∀ i, i < 16 → nk_v d2 i = H 3 2 i)
    (hfin : ∀ a1 a2 a3 b0 b2 b3 c0 c1 c3 d0 d1 d2 : Int64, rq_Hs (rq_put H r s j v) a1 a2 a3 b0 b2 b3 c0 c1 c3 d0 d1 d2 → ∃ fu, wL_law_1332 post L xs J x1 (nI n) (nI m) zI zS zW zN zR a1 a2 a3 b0 b2 b3 c0 c1 c3 d0 d1 d2 dn (nI kk) kc ks (nI n) (nI c) (nI m) vX IV U CT NB SV ST SD RC PL SI RI LN ND SE fu 0)
    (hz : (z0 = 1 ∧ w = 4) ∨ (z0 = 0 ∧ w ≠ 4)) : wL_law_563 post L xs J x1 (nI n) (nI m) zI zS zW zN zR a1 a2 a3 b0 b2 b3 c0 c1 c3 d0 d1 d2 dn (nI kk) (nI w) (nI j) (nI v) z0 kc ks (nI n) (nI c) (nI m) vX IV U CT NB SV ST SD RC PL SI RI LN ND SE := by
  unfold wL_law_563
  refine wl_putH (r0 := 1) (s0 := 0) hj hv hr hs (by omega) hw yb0 hz (fun z hz2 => ?_)
  exact br_c (fun w1 => lq_586 hj hv hr hs hw ya1 ya2 ya3 hz2 yb2 yb3 yc0 yc1 yc3 yd0 yd1 yd2 hfin (Or.inl ⟨rfl, (nI_eq (b := 6) (by omega) (by decide)).mp w1⟩)) (fun w1 => lq_586 hj hv hr hs hw ya1 ya2 ya3 hz2 yb2 yb3 yc0 yc1 yc3 yd0 yd1 yd2 hfin (Or.inr ⟨rfl, fun w2 => w1 (by rw [w2]; rfl)⟩))
theorem lq_541 {J : Int64 → Int64 → Int64 → Int64 → Int64 → Int64 → Int64 → Int64 → Int64 → Int64 → Int64 → Int64 → Int64 → Int64 → Int64 → Int64 → Int64 → Int32 → Int32 → Int32 → Int32 → Int32 → (Nat → Int32) → (Nat → Int32) → (Nat → Int32) → (Nat → Int32) → (Nat → Int32) → (Nat → Int32) → (Nat → Int32) → (Nat → Int32) → (Nat → Int32) → (Nat → Int32) → (Nat → Int32) → (Nat → Int32) → (Nat → Int32) → (Nat → Int32) → (Nat → Int32) → Prop} {w r s j v : Nat} {z0 : Int32} (hj : j < 16) (hv : v < 16) (hr : r < 4) (hs : s < 4) (hw : w = r * 4 + s) (ya1 : ∀ i, i < 16 → nk_v a1 i = rq_put H r s j v 0 1 i) (ya2 : ∀ i, i < 16 → nk_v a2 i = rq_put H r s j v 0 2 i) (ya3 : ∀ i, i < 16 → nk_v a3 i = H 0 3 i) (yb0 : ∀ i, i < 16 → nk_v b0 i = H 1 0 i) (yb2 : ∀ i, i < 16 → nk_v b2 i = H 1 2 i) (yb3 : ∀ i, i < 16 → nk_v b3 i = H 1 3 i) (yc0 : ∀ i, i < 16 → nk_v c0 i = H 2 0 i) (yc1 : ∀ i, i < 16 → nk_v c1 i = H 2 1 i) (yc3 : ∀ i, i < 16 → nk_v c3 i = H 2 3 i) (yd0 : ∀ i, i < 16 → nk_v d0 i = H 3 0 i) (yd1 : ∀ i, i < 16 → nk_v d1 i = H 3 1 i) (yd2 : ∀ i, i < 16 → nk_v d2 i = H 3 2 i)
    (hfin : ∀ a1 a2 a3 b0 b2 b3 c0 c1 c3 d0 d1 d2 : Int64, rq_Hs (rq_put H r s j v) a1 a2 a3 b0 b2 b3 c0 c1 c3 d0 d1 d2 → ∃ fu, wL_law_1332 post L xs J x1 (nI n) (nI m) zI zS zW zN zR a1 a2 a3 b0 b2 b3 c0 c1 c3 d0 d1 d2 dn (nI kk) kc ks (nI n) (nI c) (nI m) vX IV U CT NB SV ST SD RC PL SI RI LN ND SE fu 0)
    (hz : (z0 = 1 ∧ w = 3) ∨ (z0 = 0 ∧ w ≠ 3)) : wL_law_541 post L xs J x1 (nI n) (nI m) zI zS zW zN zR a1 a2 a3 b0 b2 b3 c0 c1 c3 d0 d1 d2 dn (nI kk) (nI w) (nI j) (nI v) z0 kc ks (nI n) (nI c) (nI m) vX IV U CT NB SV ST SD RC PL SI RI LN ND SE := by
  unfold wL_law_541
  refine wl_putH (r0 := 0) (s0 := 3) hj hv hr hs (by omega) hw ya3 hz (fun z hz2 => ?_)
  exact br_c (fun w1 => lq_563 hj hv hr hs hw ya1 ya2 hz2 yb0 yb2 yb3 yc0 yc1 yc3 yd0 yd1 yd2 hfin (Or.inl ⟨rfl, (nI_eq (b := 4) (by omega) (by decide)).mp w1⟩)) (fun w1 => lq_563 hj hv hr hs hw ya1 ya2 hz2 yb0 yb2 yb3 yc0 yc1 yc3 yd0 yd1 yd2 hfin (Or.inr ⟨rfl, fun w2 => w1 (by rw [w2]; rfl)⟩))
theorem lq_519 {J : Int64 → Int64 → Int64 → Int64 → Int64 → Int64 → Int64 → Int64 → Int64 → Int64 → Int64 → Int64 → Int64 → Int64 → Int64 → Int64 → Int64 → Int32 → Int32 → Int32 → Int32 → Int32 → (Nat → Int32) → (Nat → Int32) → (Nat → Int32) → (Nat → Int32) → (Nat → Int32) → (Nat → Int32) → (Nat → Int32) → (Nat → Int32) → (Nat → Int32) → (Nat → Int32) → (Nat → Int32) → (Nat → Int32) → (Nat → Int32) → (Nat → Int32) → (Nat → Int32) → Prop} {w r s j v : Nat} {z0 : Int32} (hj : j < 16) (hv : v < 16) (hr : r < 4) (hs : s < 4) (hw : w = r * 4 + s) (ya1 : ∀ i, i < 16 → nk_v a1 i = rq_put H r s j v 0 1 i) (ya2 : ∀ i, i < 16 → nk_v a2 i = H 0 2 i) (ya3 : ∀ i, i < 16 → nk_v a3 i = H 0 3 i) (yb0 : ∀ i, i < 16 → nk_v b0 i = H 1 0 i) (yb2 : ∀ i, i < 16 → nk_v b2 i = H 1 2 i) (yb3 : ∀ i, i < 16 → nk_v b3 i = H 1 3 i) (yc0 : ∀ i, i < 16 → nk_v c0 i = H 2 0 i) (yc1 : ∀ i, i < 16 → nk_v c1 i = H 2 1 i) (yc3 : ∀ i, i < 16 → nk_v c3 i = H 2 3 i) (yd0 : ∀ i, i < 16 → nk_v d0 i = H 3 0 i) (yd1 : ∀ i, i < 16 → nk_v d1 i = H 3 1 i) (yd2 : ∀ i, i < 16 → nk_v d2 i = H 3 2 i)
    (hfin : ∀ a1 a2 a3 b0 b2 b3 c0 c1 c3 d0 d1 d2 : Int64, rq_Hs (rq_put H r s j v) a1 a2 a3 b0 b2 b3 c0 c1 c3 d0 d1 d2 → ∃ fu, wL_law_1332 post L xs J x1 (nI n) (nI m) zI zS zW zN zR a1 a2 a3 b0 b2 b3 c0 c1 c3 d0 d1 d2 dn (nI kk) kc ks (nI n) (nI c) (nI m) vX IV U CT NB SV ST SD RC PL SI RI LN ND SE fu 0)
    (hz : (z0 = 1 ∧ w = 2) ∨ (z0 = 0 ∧ w ≠ 2)) : wL_law_519 post L xs J x1 (nI n) (nI m) zI zS zW zN zR a1 a2 a3 b0 b2 b3 c0 c1 c3 d0 d1 d2 dn (nI kk) (nI w) (nI j) (nI v) z0 kc ks (nI n) (nI c) (nI m) vX IV U CT NB SV ST SD RC PL SI RI LN ND SE := by
  unfold wL_law_519
  refine wl_putH (r0 := 0) (s0 := 2) hj hv hr hs (by omega) hw ya2 hz (fun z hz2 => ?_)
  exact br_c (fun w1 => lq_541 hj hv hr hs hw ya1 hz2 ya3 yb0 yb2 yb3 yc0 yc1 yc3 yd0 yd1 yd2 hfin (Or.inl ⟨rfl, (nI_eq (b := 3) (by omega) (by decide)).mp w1⟩)) (fun w1 => lq_541 hj hv hr hs hw ya1 hz2 ya3 yb0 yb2 yb3 yc0 yc1 yc3 yd0 yd1 yd2 hfin (Or.inr ⟨rfl, fun w2 => w1 (by rw [w2]; rfl)⟩))
theorem lq_497 {J : Int64 → Int64 → Int64 → Int64 → Int64 → Int64 → Int64 → Int64 → Int64 → Int64 → Int64 → Int64 → Int64 → Int64 → Int64 → Int64 → Int64 → Int32 → Int32 → Int32 → Int32 → Int32 → (Nat → Int32) → (Nat → Int32) → (Nat → Int32) → (Nat → Int32) → (Nat → Int32) → (Nat → Int32) → (Nat → Int32) → (Nat → Int32) → (Nat → Int32) → (Nat → Int32) → (Nat → Int32) → (Nat → Int32) → (Nat → Int32) → (Nat → Int32) → (Nat → Int32) → Prop} {w r s j v : Nat} {z0 : Int32} (hj : j < 16) (hv : v < 16) (hr : r < 4) (hs : s < 4) (hw : w = r * 4 + s) (ya1 : ∀ i, i < 16 → nk_v a1 i = H 0 1 i) (ya2 : ∀ i, i < 16 → nk_v a2 i = H 0 2 i) (ya3 : ∀ i, i < 16 → nk_v a3 i = H 0 3 i) (yb0 : ∀ i, i < 16 → nk_v b0 i = H 1 0 i) (yb2 : ∀ i, i < 16 → nk_v b2 i = H 1 2 i) (yb3 : ∀ i, i < 16 → nk_v b3 i = H 1 3 i) (yc0 : ∀ i, i < 16 → nk_v c0 i = H 2 0 i) (yc1 : ∀ i, i < 16 → nk_v c1 i = H 2 1 i) (yc3 : ∀ i, i < 16 → nk_v c3 i = H 2 3 i) (yd0 : ∀ i, i < 16 → nk_v d0 i = H 3 0 i) (yd1 : ∀ i, i < 16 → nk_v d1 i = H 3 1 i) (yd2 : ∀ i, i < 16 → nk_v d2 i = H 3 2 i)
    (hfin : ∀ a1 a2 a3 b0 b2 b3 c0 c1 c3 d0 d1 d2 : Int64, rq_Hs (rq_put H r s j v) a1 a2 a3 b0 b2 b3 c0 c1 c3 d0 d1 d2 → ∃ fu, wL_law_1332 post L xs J x1 (nI n) (nI m) zI zS zW zN zR a1 a2 a3 b0 b2 b3 c0 c1 c3 d0 d1 d2 dn (nI kk) kc ks (nI n) (nI c) (nI m) vX IV U CT NB SV ST SD RC PL SI RI LN ND SE fu 0)
    (hz : (z0 = 1 ∧ w = 1) ∨ (z0 = 0 ∧ w ≠ 1)) : wL_law_497 post L xs J x1 (nI n) (nI m) zI zS zW zN zR a1 a2 a3 b0 b2 b3 c0 c1 c3 d0 d1 d2 dn (nI kk) (nI w) (nI j) (nI v) z0 kc ks (nI n) (nI c) (nI m) vX IV U CT NB SV ST SD RC PL SI RI LN ND SE := by
  unfold wL_law_497
  refine wl_putH (r0 := 0) (s0 := 1) hj hv hr hs (by omega) hw ya1 hz (fun z hz2 => ?_)
  exact br_c (fun w1 => lq_519 hj hv hr hs hw hz2 ya2 ya3 yb0 yb2 yb3 yc0 yc1 yc3 yd0 yd1 yd2 hfin (Or.inl ⟨rfl, (nI_eq (b := 2) (by omega) (by decide)).mp w1⟩)) (fun w1 => lq_519 hj hv hr hs hw hz2 ya2 ya3 yb0 yb2 yb3 yc0 yc1 yc3 yd0 yd1 yd2 hfin (Or.inr ⟨rfl, fun w2 => w1 (by rw [w2]; rfl)⟩))
theorem lq_405 {J : Int64 → Int64 → Int64 → Int64 → Int64 → Int64 → Int64 → Int64 → Int64 → Int64 → Int64 → Int64 → Int64 → Int64 → Int64 → Int64 → Int64 → Int32 → Int32 → Int32 → Int32 → Int32 → (Nat → Int32) → (Nat → Int32) → (Nat → Int32) → (Nat → Int32) → (Nat → Int32) → (Nat → Int32) → (Nat → Int32) → (Nat → Int32) → (Nat → Int32) → (Nat → Int32) → (Nat → Int32) → (Nat → Int32) → (Nat → Int32) → (Nat → Int32) → (Nat → Int32) → Prop} (hJ : rq_J n c m kk J) (hL : L ≤ 260) (hkk : kk ≤ 1000) (hR : rq_R n c m iv ct g st sd rc si ri H zI zS zW zN zR a1 a2 a3 b0 b2 b3 c0 c1 c3 d0 d1 d2 dn IV U CT NB ST SD RC SI RI) {x45 : Int32} (hat : x45 < 0 ∨ ∃ e, e < m ∧ st e = 1 ∧ x45 = nI e) : wL_law_405 post L xs J x1 (nI n) (nI m) zI zS zW zN zR a1 a2 a3 b0 b2 b3 c0 c1 c3 d0 d1 d2 dn (nI kk) x45 kc ks (nI n) (nI c) (nI m) vX IV U CT NB SV ST SD RC PL SI RI LN ND SE := by
  have hR' := hR
  obtain ⟨hA, hI, hH, hzI, hzS, hzW, hzR, hdn⟩ := hR'
  have hA' := hA
  obtain ⟨hW, hIV, hCT, hNB, hST, hSD, hRC, hSI, hRI⟩ := hA'
  have hW' := hW
  obtain ⟨⟨⟨n2, n4⟩, ⟨c3h, c8⟩, ⟨m4, m16⟩⟩, hS, hM, hB⟩ := hW'
  have hgo := lq_go (kc := kc) (ks := ks) (post := post) (xs := xs) (x1 := x1) (vX := vX) (SV := SV) (PL := PL) (LN := LN) (ND := ND) (SE := SE) hJ hL hkk hR
  unfold wL_law_405
  rcases hat with h | ⟨e, he, h1, rfl⟩
  · exact br_t h hgo
  · obtain ⟨t1, t2, t3, t4, t5⟩ := hM.1 e
    have hzi := hzI (rc e) (by omega)
    rw [if_pos t3] at hzi
    have h14 := hI.1 _ t3
    have h14s := hI.1 _ t2
    obtain ⟨w1, w2⟩ := hzW e he (by omega)
    obtain ⟨i3a, i3b⟩ := hI.2.2.1 e he (by omega)
    refine br_f (nI_pos (by omega)) ?_
    refine rx_deliver hA he (fun z => absurd h1 z) (fun _ _ => br_f (by decide) hgo) (fun _ hu vX1 => ?_)
    refine br_t rfl ?_
    refine wl_nib (by omega) ?_
    refine wl_nib (by omega) ?_
    rw [w1]
    have e1 : nI (sd e + 4 * rc e) >>> ((2 : Int32) &&& 31) = nI (rc e) := by
      rw [pk_shrN (by omega) _ 2 (by decide)]
      congr 1
      omega
    have e2 : nI (sd e + 4 * rc e) &&& 3 = nI (sd e) := by
      rw [pk_andN (by omega) 2 (by decide)]
      congr 1
      omega
    have e3 : nI (rc e) * 4 = nI (rc e * 4) := pk_mul _ 4
    have e4 : nI (rc e * 4 + sd e) >>> ((2 : Int32) &&& 31) = nI (rc e) := by
      rw [pk_shrN (by omega) _ 2 (by decide)]
      congr 1
      omega
    rw [e1, e2, e3, nI_add]
    refine nm_e ?_
    rw [e4]
    refine wl_nib (by omega) ?_
    refine wl_nib (by omega) ?_
    rw [hzi, w2, nI_1]
    refine nm_e ?_
    refine wl_set (v := 2) (by omega) (by omega) (fun z1 hz1 => ?_)
    refine wl_set (by omega) (by omega) (fun z2 hz2 => ?_)
    have hfin : ∀ a1 a2 a3 b0 b2 b3 c0 c1 c3 d0 d1 d2 : Int64, rq_Hs (rq_put H (rc e) (sd e) (iv (rc e)) (si e + 1)) a1 a2 a3 b0 b2 b3 c0 c1 c3 d0 d1 d2 →
        ∃ fu, wL_law_1332 post L xs J x1 (nI n) (nI m) zI z1 zW zN z2 a1 a2 a3 b0 b2 b3 c0 c1 c3 d0 d1 d2 dn (nI kk) kc ks (nI n) (nI c) (nI m) vX1 IV U CT NB SV (upd ST e 2) SD RC PL SI (upd RI e (nI (iv (rc e)))) LN ND SE fu 0 := by
      intro a1 a2 a3 b0 b2 b3 c0 c1 c3 d0 d1 d2 hHs
      refine lq_go hJ hL hkk (iv := iv) (ct := ct) (g := g) (st := rl_u st e 2) (sd := sd) (rc := rc) (si := si) (ri := rl_u ri e (iv (rc e))) (H := rq_put H (rc e) (sd e) (iv (rc e)) (si e + 1)) ?_
      refine ⟨⟨rl_W_deliver hW, hIV, hCT, hNB, rl_uI hST e 2, hSD, hRC, hSI, rl_uI hRI e _⟩, rq_I_deliver n4 hM hI he h1, hHs, hzI, fun f hf => ?_, fun f hf z => ?_, fun f hf z => ?_, hdn⟩
      · rw [hz1 f (by omega)]
        by_cases w : f = e
        · rw [if_pos w, w, rl_us]
        · rw [if_neg w, rl_un w]; exact hzS f hf
      · by_cases w : f = e
        · rw [w]; exact ⟨w1, w2⟩
        · rw [rl_un w] at z; exact hzW f hf z
      · rw [hz2 f (by omega)]
        by_cases w : f = e
        · rw [if_pos w, w, rl_us]
        · rw [rl_un w] at z
          rw [if_neg w, rl_un w]; exact hzR f hf z
    have hh := hH
    exact br_c (fun y => lq_497 (by omega) (by omega) (by omega) (by omega) rfl (fun i hi => (hh i hi).1) (fun i hi => (hh i hi).2.1) (fun i hi => (hh i hi).2.2.1) (fun i hi => (hh i hi).2.2.2.1) (fun i hi => (hh i hi).2.2.2.2.1) (fun i hi => (hh i hi).2.2.2.2.2.1) (fun i hi => (hh i hi).2.2.2.2.2.2.1) (fun i hi => (hh i hi).2.2.2.2.2.2.2.1) (fun i hi => (hh i hi).2.2.2.2.2.2.2.2.1) (fun i hi => (hh i hi).2.2.2.2.2.2.2.2.2.1) (fun i hi => (hh i hi).2.2.2.2.2.2.2.2.2.2.1) (fun i hi => (hh i hi).2.2.2.2.2.2.2.2.2.2.2) hfin (Or.inl ⟨rfl, (nI_eq (b := 1) (by omega) (by decide)).mp y⟩))
      (fun y => lq_497 (by omega) (by omega) (by omega) (by omega) rfl (fun i hi => (hh i hi).1) (fun i hi => (hh i hi).2.1) (fun i hi => (hh i hi).2.2.1) (fun i hi => (hh i hi).2.2.2.1) (fun i hi => (hh i hi).2.2.2.2.1) (fun i hi => (hh i hi).2.2.2.2.2.1) (fun i hi => (hh i hi).2.2.2.2.2.2.1) (fun i hi => (hh i hi).2.2.2.2.2.2.2.1) (fun i hi => (hh i hi).2.2.2.2.2.2.2.2.1) (fun i hi => (hh i hi).2.2.2.2.2.2.2.2.2.1) (fun i hi => (hh i hi).2.2.2.2.2.2.2.2.2.2.1) (fun i hi => (hh i hi).2.2.2.2.2.2.2.2.2.2.2) hfin (Or.inr ⟨rfl, fun w => y (by rw [w]; rfl)⟩))
end
