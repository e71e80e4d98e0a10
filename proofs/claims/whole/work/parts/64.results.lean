/-! RESULTS OF TASKS: sets of bits in the class, a row in the reference -/
theorem or_nI (a b : Nat) : nI a ||| nI b = nI (a ||| b) := by
  apply Int32.toBitVec_inj.mp
  apply BitVec.eq_of_toNat_eq
  show (BitVec.ofNat 32 a ||| BitVec.ofNat 32 b).toNat = (BitVec.ofNat 32 (a ||| b)).toNat
  rw [BitVec.toNat_or, BitVec.toNat_ofNat, BitVec.toNat_ofNat, BitVec.toNat_ofNat, Nat.or_mod_two_pow]
def dm (r : Nat → Int32) : Nat → Nat
  | 0 => 0
  | k + 1 => dm r k + (if r k ≤ 0 then 0 else 1)
def ds (r : Nat → Int32) (c1 : Int32) : Nat → Nat
  | 0 => 0
  | k + 1 => ds r c1 k ||| (if r k = 1 ∨ (r k = 2 ∧ c1 = 0) then 2 ^ k else 0)
theorem dm_le (r : Nat → Int32) : ∀ k, dm r k ≤ k
  | 0 => Nat.le_refl _
  | k + 1 => by have := dm_le r k; simp only [dm]; split <;> omega
theorem ev_doneMany_L {σ : hM} {t : Nat} {ex : Int32 → hM → Option (Int32 × hM)} (h5 : σ.1 0 5 = nI t) (ht : t ≤ 6) (h8 : σ.2.2 0 8 = some 6) : ∀ (d k fuel : Nat), k + d = t → d < fuel → fX9_doneMany_L4 kT2 0 ex fuel (nI (dm (σ.1 6) k)) (nI k) σ = ex (nI (dm (σ.1 6) t)) σ := by
  intro d
  induction d with
  | zero =>
    intro k fuel hk hf
    obtain ⟨f, rfl⟩ : ∃ f, fuel = f + 1 := ⟨fuel - 1, by omega⟩
    have e : k = t := by omega
    subst e
    rw [fX9_doneMany_L4]
    simp (disch := first | with_reducible assumption | (unfold kd; decide) | (unfold kl; decide) | decide | (apply t_lt; omega)) only [gI, ob, h5, if_pos (nI_le (Nat.le_refl k) (show k < 2 ^ 31 by omega))]
  | succ d ih =>
    intro k fuel hk hf
    obtain ⟨f, rfl⟩ : ∃ f, fuel = f + 1 := ⟨fuel - 1, by omega⟩
    rw [fX9_doneMany_L4]
    have hk6 : k < 6 := by omega
    simp (disch := first | with_reducible assumption | (unfold kd; decide) | (unfold kl; decide) | decide | (apply t_lt; omega)) only [gI, gR, ob, h5, h8, if_neg (nI_ge (show k < t by omega) (show t < 2 ^ 31 by omega)), lA 6, iflt, nI_1]
    rw [← ih (k + 1) f (by omega) (by omega)]
    congr 1
    show nI (dm (σ.1 6) k) + _ = nI (dm (σ.1 6) k + _)
    rw [← nI_add]
    congr 1
    split <;> rfl
theorem ev_doneMany {σ : hM} {t : Nat} (h5 : σ.1 0 5 = nI t) (ht : t ≤ 6) (h8 : σ.2.2 0 8 = some 6) : fX9_doneMany kT2 0 σ = some (nI (dm (σ.1 6) t), σ) := by
  unfold fX9_doneMany
  exact ev_doneMany_L h5 ht h8 t 0 6000 (by omega) (by omega)
theorem shl31 : ∀ k, k < 31 → (1 : Int32) <<< (nI k &&& 31) = nI (2 ^ k) := by decide +kernel
theorem ev_doneSet_L {σ : hM} {t : Nat} {c1 : Int32} {ex : Int32 → hM → Option (Int32 × hM)} (h5 : σ.1 0 5 = nI t) (ht : t ≤ 6) (h8 : σ.2.2 0 8 = some 6) : ∀ (d k fuel : Nat), k + d = t → d < fuel → fX9_doneSet_L4 kT2 0 c1 ex fuel (nI (ds (σ.1 6) c1 k)) (nI k) σ = ex (nI (ds (σ.1 6) c1 t)) σ := by
  intro d
  induction d with
  | zero =>
    intro k fuel hk hf
    obtain ⟨f, rfl⟩ : ∃ f, fuel = f + 1 := ⟨fuel - 1, by omega⟩
    have e : k = t := by omega
    subst e
    rw [fX9_doneSet_L4]
    simp (disch := first | with_reducible assumption | (unfold kd; decide) | (unfold kl; decide) | decide | (apply t_lt; omega)) only [gI, ob, h5, if_pos (nI_le (Nat.le_refl k) (show k < 2 ^ 31 by omega))]
  | succ d ih =>
    intro k fuel hk hf
    obtain ⟨f, rfl⟩ : ∃ f, fuel = f + 1 := ⟨fuel - 1, by omega⟩
    rw [fX9_doneSet_L4]
    have hk6 : k < 6 := by omega
    simp (disch := first | with_reducible assumption | (unfold kd; decide) | (unfold kl; decide) | decide | (apply t_lt; omega)) only [gI, gR, ob, h5, h8, if_neg (nI_ge (show k < t by omega) (show t < 2 ^ 31 by omega)), lA 6, iflt, nI_1, shl31 k (by omega)]
    have e0 : (0 : Int32) = nI 0 := rfl
    have hnx := ih (k + 1) f (by omega) (by omega)
    rw [show ds (σ.1 6) c1 (k + 1) = ds (σ.1 6) c1 k ||| (if σ.1 6 k = 1 ∨ (σ.1 6 k = 2 ∧ c1 = 0) then 2 ^ k else 0) from rfl] at hnx
    by_cases h1 : σ.1 6 k = 1
    · rw [if_pos (Or.inl h1)] at hnx
      rw [if_pos h1, or_nI]
      exact hnx
    · rw [if_neg h1]
      by_cases h2 : σ.1 6 k = 2
      · rw [if_pos h2]
        by_cases h3 : c1 = 0
        · rw [if_pos (Or.inr ⟨h2, h3⟩)] at hnx
          rw [if_pos h3, or_nI]
          exact hnx
        · rw [if_neg (fun q => q.elim h1 (fun w => h3 w.2))] at hnx
          rw [if_neg h3, e0, or_nI]
          exact hnx
      · rw [if_neg (fun q => q.elim h1 (fun w => h2 w.1))] at hnx
        rw [if_neg h2, e0, or_nI]
        exact hnx
theorem ev_doneSet {σ : hM} {t : Nat} {c1 : Int32} (h5 : σ.1 0 5 = nI t) (ht : t ≤ 6) (h8 : σ.2.2 0 8 = some 6) : fX9_doneSet kT2 0 c1 σ = some (nI (ds (σ.1 6) c1 t), σ) := by
  unfold fX9_doneSet
  exact ev_doneSet_L h5 ht h8 t 0 6000 (by omega) (by omega)
theorem bitset (n j i : Nat) : (n ||| 2 ^ j).testBit i = (n.testBit i || decide (i = j)) := by
  rw [Nat.testBit_or, Nat.testBit_two_pow]
  congr 1
  exact decide_eq_decide.mpr ⟨Eq.symm, Eq.symm⟩
theorem ds_bit (r : Nat → Int32) (c1 : Int32) (i : Nat) : ∀ k, (ds r c1 k).testBit i = (decide (i < k) && decide (r i = 1 ∨ (r i = 2 ∧ c1 = 0)))
  | 0 => by simp [ds]
  | k + 1 => by
    have ih := ds_bit r c1 i k
    simp only [ds]
    by_cases h : r k = 1 ∨ (r k = 2 ∧ c1 = 0)
    · rw [if_pos h, bitset, ih]
      by_cases e : i = k
      · subst e; simp [h]
      · by_cases l : i < k
        · simp [l, e, show i < k + 1 by omega]
        · simp [l, e, show ¬ i < k + 1 by omega]
    · rw [if_neg h, Nat.or_zero, ih]
      by_cases e : i = k
      · subst e; simp [h]
      · by_cases l : i < k
        · simp [l, show i < k + 1 by omega]
        · simp [l, show ¬ i < k + 1 by omega]
theorem bit6 {N i : Nat} (h : N < 64) (hi : 6 ≤ i) : N.testBit i = false := Nat.testBit_lt_two_pow (Nat.lt_of_lt_of_le h (Nat.pow_le_pow_right (n := 2) (by decide) hi))
theorem ds_N {r : Nat → Int32} {t N : Nat} (ht : t ≤ 6) (hN : N < 64) (h : ∀ i, i < 6 → (r i = 0 ∨ r i = 1 ∨ r i = 2) ∧ N.testBit i = decide (r i ≠ 0) ∧ (t ≤ i → r i = 0)) : ds r 0 t = N := by
  apply Nat.eq_of_testBit_eq
  intro i
  rw [ds_bit]
  by_cases hi : i < 6
  · obtain ⟨h1, h2, h3⟩ := h i hi
    rw [h2]
    by_cases l : i < t
    · rcases h1 with q | q | q <;> rw [q] <;> simp [l]
    · rw [h3 (by omega)]; simp [l]
  · rw [bit6 hN (by omega)]; simp [show ¬ i < t by omega]
theorem ds_P {r : Nat → Int32} {t N : Nat} (ht : t ≤ 6) (hN : N < 64) (h : ∀ i, i < 6 → N.testBit i = decide (r i = 1) ∧ (t ≤ i → r i = 0)) : ds r 1 t = N := by
  apply Nat.eq_of_testBit_eq
  intro i
  rw [ds_bit]
  by_cases hi : i < 6
  · obtain ⟨h2, h3⟩ := h i hi
    rw [h2]
    by_cases l : i < t
    · simp [l]
    · rw [h3 (by omega)]; simp [l]
  · rw [bit6 hN (by omega)]; simp [show ¬ i < t by omega]
def bc (N : Nat) : Nat := ((((((N.testBit 0).toNat + (N.testBit 1).toNat) + (N.testBit 2).toNat) + (N.testBit 3).toNat) + (N.testBit 4).toNat) + (N.testBit 5).toNat)
theorem ev_bitCount {T : hT} {u : hM} {N : Nat} (hN : N < 64) : fJ6_bitCount_0f7a4 T (nI N) u = some (nI (bc N), u) := by
  unfold fJ6_bitCount_0f7a4
  simp only [iflt]
  refine congrArg (fun x => some (x, u)) ?_
  revert N
  decide +kernel
theorem dm_bc {r : Nat → Int32} {t N : Nat} (ht : t ≤ 6) (h : ∀ i, i < 6 → (r i = 0 ∨ r i = 1 ∨ r i = 2) ∧ N.testBit i = decide (r i ≠ 0) ∧ (t ≤ i → r i = 0)) : dm r t = bc N := by
  have z : ∀ i, i < 6 → (if r i ≤ 0 then 0 else 1) = (N.testBit i).toNat := by
    intro i hi
    obtain ⟨h1, h2, -⟩ := h i hi
    rw [h2]
    rcases h1 with q | q | q <;> rw [q] <;> decide
  have a : ∀ k, t ≤ k → k ≤ 6 → dm r k = dm r t := by
    intro k
    induction k with
    | zero => intro h1 _; have : t = 0 := by omega
              rw [this]
    | succ k ih =>
      intro h1 h2
      by_cases e : t = k + 1
      · rw [e]
      · simp only [dm]
        rw [ih (by omega) (by omega), (h k (by omega)).2.2 (by omega)]
        rfl
  rw [← a 6 ht (Nat.le_refl 6)]
  simp only [dm, bc]
  rw [z 0 (by decide), z 1 (by decide), z 2 (by decide), z 3 (by decide), z 4 (by decide), z 5 (by decide)]
  omega
theorem isBit : ∀ N, N < 64 → ∀ i, i < 6 → decide (((nI N >>> (nI i &&& 31)) &&& (1 : Int32)) = 1) = N.testBit i := by decide +kernel
theorem ev_isDone {σ : hM} {A N i : Nat} (kA : kd kT1 A (5 + 1)) (e : σ.1 A 4 = nI N) (hN : N < 64) (hi : i < 6) : fX5_isDone kT1 A (nI i) σ = some (if N.testBit i = true then 1 else 0, σ) := by
  unfold fX5_isDone
  rw [gI kA, ob, e]
  have q := isBit N hN i hi
  by_cases h : N.testBit i = true
  · rw [h] at q
    rw [if_pos h, if_pos (of_decide_eq_true q)]; rfl
  · rw [Bool.not_eq_true] at h
    rw [h] at q
    rw [if_neg (of_decide_eq_false q), if_neg (by rw [h]; decide)]; rfl
theorem ev_isPassed {σ : hM} {A N i : Nat} (kA : kd kT1 A (5 + 1)) (e : σ.1 A 5 = nI N) (hN : N < 64) (hi : i < 6) : fX5_isPassed kT1 A (nI i) σ = some (if N.testBit i = true then 1 else 0, σ) := by
  unfold fX5_isPassed
  rw [gI kA, ob, e]
  have q := isBit N hN i hi
  by_cases h : N.testBit i = true
  · rw [h] at q
    rw [if_pos h, if_pos (of_decide_eq_true q)]; rfl
  · rw [Bool.not_eq_true] at h
    rw [h] at q
    rw [if_neg (of_decide_eq_false q), if_neg (by rw [h]; decide)]; rfl
