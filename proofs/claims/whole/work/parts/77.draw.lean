/-! draws: the mask and the remainder are one -/
theorem l_bm {z : Int} (h1 : 0 ≤ z) (h2 : z < 4611686018427387904) : z.bmod (2 ^ 64) = z := by
  rw [Int.bmod_eq_of_le (by omega) (by omega)]
theorem z_int {j : Nat} (hj : j < 2 ^ 31) : ((nI j).toInt64 * (1103515245 : Int64) + (12345 : Int64)).toInt = ((j * 1103515245 + 12345 : Nat) : Int) := by
  rw [Int64.toInt_add, Int64.toInt_mul, Int32.toInt_toInt64, nI_toInt hj, show (1103515245 : Int64).toInt = 1103515245 from rfl, show (12345 : Int64).toInt = 12345 from rfl]
  rw [l_bm (z := (j : Int) * 1103515245) (by omega) (by omega), l_bm (z := (j : Int) * 1103515245 + 12345) (by omega) (by omega)]
  omega
theorem draw_eq {j : Nat} (hj : j < 2 ^ 31) : (((nI j).toInt64 * (1103515245 : Int64) + (12345 : Int64)) &&& (2147483647 : Int64)).toInt32 = ((((nI j).toInt64 * (1103515245 : Int64)) + (12345 : Int64)) - (((nI j).toInt64 * (1103515245 : Int64)) + (12345 : Int64)) / (2147483648 : Int64) * (2147483648 : Int64)).toInt32 ∧ 0 ≤ ((((nI j).toInt64 * (1103515245 : Int64)) + (12345 : Int64)) - (((nI j).toInt64 * (1103515245 : Int64)) + (12345 : Int64)) / (2147483648 : Int64) * (2147483648 : Int64)).toInt32.toInt := by
  have hz := z_int hj
  generalize (nI j).toInt64 * (1103515245 : Int64) + (12345 : Int64) = z at hz ⊢
  have hZ : j * 1103515245 + 12345 < 4611686018427387904 := by omega
  generalize j * 1103515245 + 12345 = Z at hz hZ
  have hd : (z / (2147483648 : Int64)).toInt = ((Z / 2147483648 : Nat) : Int) := by
    rw [Int64.toInt_div, hz, show (2147483648 : Int64).toInt = 2147483648 from rfl, Int.tdiv_eq_ediv_of_nonneg (by omega), l_bm (by omega) (by omega)]
    omega
  have hr : (z - z / (2147483648 : Int64) * (2147483648 : Int64)).toInt = ((Z % 2147483648 : Nat) : Int) := by
    rw [Int64.toInt_sub, Int64.toInt_mul, hd, hz, show (2147483648 : Int64).toInt = 2147483648 from rfl, l_bm (z := ((Z / 2147483648 : Nat) : Int) * 2147483648) (by omega) (by omega), l_bm (by omega) (by omega)]
    omega
  have hm : (z &&& (2147483647 : Int64)).toInt = ((Z % 2147483648 : Nat) : Int) := by
    have hn : z.toBitVec.toNat = Z := by
      have q : z.toInt = z.toBitVec.toInt := rfl
      rw [q, BitVec.toInt_eq_toNat_cond] at hz
      have := z.toBitVec.isLt
      split at hz <;> omega
    have e : (z &&& (2147483647 : Int64)).toBitVec.toNat = Z % 2147483648 := by
      show (z.toBitVec &&& (2147483647 : BitVec 64)).toNat = _
      rw [BitVec.toNat_and, hn]
      exact Nat.and_two_pow_sub_one_eq_mod Z 31
    show (z &&& (2147483647 : Int64)).toBitVec.toInt = _
    rw [BitVec.toInt_eq_toNat_of_lt (by rw [e]; omega), e]
  have heq : (z &&& (2147483647 : Int64)) = z - z / (2147483648 : Int64) * (2147483648 : Int64) := Int64.toInt_inj.mp (hm.trans hr.symm)
  refine ⟨by rw [heq], ?_⟩
  rw [Int64.toInt_toInt32, hr, Int.bmod_eq_of_le (by omega) (by omega)]
  omega
section DRAW
variable {σ1 σ2 : hM} {A j : Nat} {p x : Int32}
def vSeed (j : Int32) : Int32 := (((j.toInt64 * (1103515245 : Int64)) + (12345 : Int64)) - ((j.toInt64 * (1103515245 : Int64)) + (12345 : Int64)) / (2147483648 : Int64) * (2147483648 : Int64)).toInt32
theorem vSeed_pos {j : Int32} (h : 0 ≤ j.toInt) : 0 ≤ (vSeed j).toInt := by
  obtain ⟨k, hk, e⟩ := nI_of (x := j) (by rw [Int32.lt_iff_toInt_lt, Int32.toInt_zero]; omega)
  subst e
  exact (draw_eq hk).2
theorem vSeed_mask {j : Int32} (h : 0 ≤ j.toInt) : (((j.toInt64 * (1103515245 : Int64)) + (12345 : Int64)) &&& (2147483647 : Int64)).toInt32 = vSeed j := by
  obtain ⟨k, hk, e⟩ := nI_of (x := j) (by rw [Int32.lt_iff_toInt_lt, Int32.toInt_zero]; omega)
  subst e
  exact (draw_eq hk).1
theorem ev_draw1 (e : σ1.1 32 6 = x) (hx : 0 ≤ x.toInt) (hp : 0 < p.toInt) : fX5_draw kT1 32 p σ1 = some (vSeed x / 65536 - vSeed x / 65536 / p * p, wI σ1 32 6 (vSeed x)) := by
  unfold fX5_draw rmi
  rw [gI1 32 5, ob, e, vSeed_mask hx, pI1 32 5, ob, if_neg (show ¬ p ≤ 0 by rw [Int32.le_iff_toInt_le, Int32.toInt_zero]; omega), gI1 32 5, ob, wIe, if_neg (show ¬ p = 0 from fun q => by rw [q] at hp; exact absurd hp (by decide)), ob]
theorem ev_draw2 (e : σ2.1 0 11 = x) (hp : 0 < p.toInt) : fX9_draw kT2 0 p σ2 = some (vSeed x / 65536 - vSeed x / 65536 / p * p, wI σ2 0 11 (vSeed x)) := by
  unfold fX9_draw rmi
  rw [gI2, ob, e, pI2, ob, gI2, ob, wIe, if_neg (show ¬ p = 0 from fun q => by rw [q] at hp; exact absurd hp (by decide))]
  rfl
variable {s k : Nat} {aim since : Int32}
theorem ev_nextAim (w1 : σ2.2.2 0 1 = some 1) (w4 : σ2.2.2 0 4 = some 3) (hs : s < 12) (hk : k + 1 < 40) : fX9_nextAim kT2 0 (nI s) aim (nI (k + 1)) since σ2 = some (aim + vMove (fun j => σ2.1 3 (8 * s + j)) (σ2.1 1 (k + 1) - σ2.1 1 k) since, σ2) := by
  have l0 : ald 11 kT2 σ2 3 (nI (8 * s)) = some (σ2.1 3 (8 * s)) := lA2 3 96 (by omega)
  have l1 : ald 11 kT2 σ2 3 (nI (8 * s) + 1) = some (σ2.1 3 (8 * s + 1)) := by rw [show nI (8 * s) + 1 = nI (8 * s + 1) from ix8 s 1 rfl]; exact lA2 3 96 (by omega)
  have l4 : ald 11 kT2 σ2 3 (nI (8 * s) + 4) = some (σ2.1 3 (8 * s + 4)) := by rw [show nI (8 * s) + 4 = nI (8 * s + 4) from ix8 s 4 rfl]; exact lA2 3 96 (by omega)
  have l7 : ald 11 kT2 σ2 3 (nI (8 * s) + 7) = some (σ2.1 3 (8 * s + 7)) := by rw [show nI (8 * s) + 7 = nI (8 * s + 7) from ix8 s 7 rfl]; exact lA2 3 96 (by omega)
  have d1 : ald 11 kT2 σ2 1 (nI (k + 1)) = some (σ2.1 1 (k + 1)) := lA2 1 40 (by omega)
  have d0 : ald 11 kT2 σ2 1 (nI (k + 1) - 1) = some (σ2.1 1 k) := by rw [nI_pred k]; exact lA2 1 40 (by omega)
  unfold fX9_nextAim
  simp only [gR2, w4, w1, ob, iflt, mul_nI 8 8 rfl, l0, l1, l4, l7, d1, d0]
  unfold vMove vMem vEar vDrift vAbs fX9_size
  simp only [Nat.add_zero]
  generalize σ2.1 3 (8 * s) = x0
  generalize σ2.1 3 (8 * s + 1) = x1
  generalize σ2.1 3 (8 * s + 4) = x4
  generalize σ2.1 3 (8 * s + 7) = x7
  generalize σ2.1 1 (k + 1) - σ2.1 1 k = m
  by_cases h1 : x0 = 1
  · subst h1
    simp only [if_neg (show ¬ (1 : Int32) = 5 by decide), if_true, not_true, false_and, if_false]
    congr 2
    grind
  · have em : (if x0 = 5 then (if (3 : Int32) < x4 then 3 else x4) else x4) = (if x0 = 5 then (if x4 ≤ 3 then x4 else 3) else x4) := by
      by_cases h5 : x0 = 5
      · rw [if_pos h5, if_pos h5]
        by_cases q : x4 ≤ 3
        · rw [if_pos q, if_neg (i_nlt q)]
        · rw [if_neg q, if_pos (i_lt q)]
      · rw [if_neg h5, if_neg h5]
    rw [em]
    simp only [h1, not_false_eq_true, true_and, if_false]
    have fin : ∀ x3 : Int32, (if since < x3 then (if 0 ≤ m then some (m, σ2) else some (-m, σ2)).bind (fun q18 => if (if x0 = 6 then 2 else 1) * x1 + 50 < q18.1 then some (aim + m + (if x0 = 2 then 2 else 1) * x7, q18.2) else some (aim + 0 + (if x0 = 2 then 2 else 1) * x7, q18.2)) else some (aim, σ2)) = some (aim + if ¬ since < x3 then 0 else (if (if 0 ≤ m then m else 0 - m) ≤ (if x0 = 6 then 2 * x1 else x1) + 50 then 0 else m) + if x0 = 2 then 2 * x7 else x7, σ2) := by
      intro x3
      by_cases q : since < x3
      · rw [if_pos q, if_neg (show ¬ ¬ since < x3 from fun z => z q)]
        have e6 : (if x0 = 6 then 2 else 1) * x1 + 50 = (if x0 = 6 then 2 * x1 else x1) + 50 := by split <;> grind
        have e2 : (if x0 = 2 then 2 else 1) * x7 = (if x0 = 2 then 2 * x7 else x7) := by split <;> grind
        have ea : (if 0 ≤ m then some (m, σ2) else some (-m, σ2)) = some ((if 0 ≤ m then m else 0 - m), σ2) := by
          split
          · rfl
          · rw [Int32.zero_sub]
        rw [ea, ob, e6, e2]
        by_cases z : (if 0 ≤ m then m else 0 - m) ≤ (if x0 = 6 then 2 * x1 else x1) + 50
        · rw [if_pos z, if_neg (i_nlt z)]
          congr 2; grind
        · rw [if_neg z, if_pos (i_lt z)]
          congr 2; grind
      · rw [if_neg q, if_pos q, Int32.add_zero]
    by_cases h5 : x0 = 5
    · simp only [if_pos h5]
      by_cases q : x4 ≤ 3
      · simp only [if_pos q]
        exact fin x4
      · simp only [if_neg q]
        exact fin 3
    · simp only [if_neg h5]
      exact fin x4
end DRAW
