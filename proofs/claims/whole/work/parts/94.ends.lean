/-! A CROWD WHOSE KEY ENDS SOMEWHERE -/
def smm (x : Nat → Int32) : Nat → Int32
  | 0 => 0
  | k + 1 => smm x k + x k
def ch (x : Nat → Int32) (mean : Int32) : Nat → Bool
  | 0 => false
  | k + 1 => ch x mean k || decide (¬ (mean - x k) / 2 = 0)
theorem smm_cong {x y : Nat → Int32} : ∀ k, (∀ j, j < k → x j = y j) → smm x k = smm y k
  | 0, _ => rfl
  | k + 1, h => by simp only [smm]; rw [smm_cong k (fun j hj => h j (by omega)), h k (by omega)]
theorem ch_cong {x y : Nat → Int32} {v : Int32} : ∀ k, (∀ j, j < k → x j = y j) → ch x v k = ch y v k
  | 0, _ => rfl
  | k + 1, h => by simp only [ch]; rw [ch_cong k (fun j hj => h j (by omega)), h k (by omega)]
theorem ch_ex {x : Nat → Int32} {v : Int32} : ∀ k, ch x v k = true → ∃ j, j < k ∧ ¬ (v - x j) / 2 = 0
  | 0, h => absurd h (by simp [ch])
  | k + 1, h => by
    simp only [ch, Bool.or_eq_true, decide_eq_true_eq] at h
    rcases h with h | h
    · obtain ⟨j, hj, q⟩ := ch_ex k h
      exact ⟨j, by omega, q⟩
    · exact ⟨k, by omega, h⟩
section ENDS
variable {m : Nat} {v : Int32}
theorem or_ch {b : Bool} {z : Int32} : (if b = true then (1 : Int32) else 0) ||| (if z = 0 then (0 : Int32) else 1) = if (b || decide (¬ z = 0)) = true then 1 else 0 := by
  by_cases h : z = 0
  · rw [if_pos h, decide_eq_false (fun q => q h), Bool.or_false, Int32.or_zero]
  · rw [if_neg h, decide_eq_true h, Bool.or_true, if_pos rfl]
    cases b <;> rfl
theorem mean_L {σ : hM} {ex : Int32 → hM → Option (Int32 × hM)} (e2 : σ.1 94 2 = nI m) (r1 : σ.2.2 94 1 = some 96) (hm : m ≤ 8) : ∀ (d k fuel : Nat), k + d = m → d < fuel → fX0_meanOfMoved_L4 kT1 94 ex fuel (smm (σ.1 96) k) (nI k) σ = ex (smm (σ.1 96) m) σ := by
  intro d
  induction d with
  | zero =>
    intro k fuel hk hf
    obtain ⟨f, rfl⟩ : ∃ f, fuel = f + 1 := ⟨fuel - 1, by omega⟩
    have e : k = m := by omega
    subst e
    rw [fX0_meanOfMoved_L4, gI1 94 0, ob, e2, if_pos (nI_le (Nat.le_refl _) (by omega))]
  | succ d ih =>
    intro k fuel hk hf
    obtain ⟨f, rfl⟩ : ∃ f, fuel = f + 1 := ⟨fuel - 1, by omega⟩
    rw [fX0_meanOfMoved_L4, gI1 94 0, ob, e2, if_neg (nI_ge (by omega) (by omega)), gR1 94 0, r1, ob, lA1 96 8 (k := k) (by omega), ob]
    simp only [iflt, nI_1]
    exact ih (k + 1) f (by omega) (by omega)
theorem ev_mean {σ : hM} (e2 : σ.1 94 2 = nI m) (r1 : σ.2.2 94 1 = some 96) (hm : m ≤ 8) (h0 : 0 < m) : fX0_meanOfMoved kT1 94 σ = some (smm (σ.1 96) m / nI m, σ) := by
  have q := mean_L (ex := fun x6 u7 => (gti kT1 u7 94 0 2).bind fun x8 => if x8 ≤ 0 then (some ((0 : Int32), u7)) else ((gti kT1 u7 94 0 2).bind fun x9 => (dvi x6 x9).bind fun x10 => some (x10, u7))) e2 r1 hm m 0 6000 (by omega) (by omega)
  rw [show smm (σ.1 96) 0 = 0 from rfl, nI_0] at q
  unfold fX0_meanOfMoved
  rw [q, gI1 94 0, ob, e2, if_neg (nI_nle h0 (by omega)), ob]
  unfold dvi
  rw [if_neg (nI_ne0 h0 (by omega)), ob]
theorem turn_L {x : Nat → Int32} {ex : Int32 → hM → Option (Int32 × hM)} (hm : m ≤ 8) : ∀ (d k fuel : Nat) (σ : hM), k + d = m → d < fuel → σ.1 94 2 = nI m → σ.1 94 3 = v → σ.2.2 94 1 = some 96 → (∀ j, k ≤ j → j < m → σ.1 96 j = x j) → ∃ σ' : hM, fX0_changesInTurn_L4 kT1 94 ex fuel (if ch x v k = true then 1 else 0) (nI k) σ = ex (if ch x v m = true then 1 else 0) σ' ∧ σ'.2.2 = σ.2.2 ∧ (∀ a, a ≠ 96 → σ'.1 a = σ.1 a) ∧ (∀ j, j < k → σ'.1 96 j = σ.1 96 j) ∧ ∀ j, k ≤ j → j < m → σ'.1 96 j = x j + (v - x j) / 2 := by
  intro d
  induction d with
  | zero =>
    intro k fuel σ hk hf e2 e3 r1 hx
    obtain ⟨f, rfl⟩ : ∃ f, fuel = f + 1 := ⟨fuel - 1, by omega⟩
    have e : k = m := by omega
    subst e
    rw [fX0_changesInTurn_L4, gI1 94 0, ob, e2, if_pos (nI_le (Nat.le_refl _) (by omega))]
    exact ⟨σ, rfl, rfl, fun _ _ => rfl, fun _ _ => rfl, fun j a b => absurd a (by omega)⟩
  | succ d ih =>
    intro k fuel σ hk hf e2 e3 r1 hx
    obtain ⟨f, rfl⟩ : ∃ f, fuel = f + 1 := ⟨fuel - 1, by omega⟩
    rw [fX0_changesInTurn_L4, gI1 94 0, ob, e2, if_neg (nI_ge (by omega) (by omega)), gI1 94 0, ob, e3, gR1 94 0, r1, ob, lA1 96 8 (k := k) (by omega), ob]
    simp only [iflt, ob]
    rw [lA1 96 8 (k := k) (by omega), ob, sA1 96 8 (k := k) (by omega), ob, nI_1, or_ch, hx k (Nat.le_refl k) (by omega)]
    obtain ⟨σ', g1, g2, g3, g4, g5⟩ := ih (k + 1) f (wI σ 96 k (x k + (v - x k) / 2)) (by omega) (by omega) (by rw [wIn (by decide)]; exact e2) (by rw [wIn (by decide)]; exact e3) r1 (fun j a b => by rw [wIk (by omega)]; exact hx j (by omega) b)
    refine ⟨σ', g1, g2, fun a ha => (g3 a ha).trans (wIn ha), fun j hj => ?_, fun j a b => ?_⟩
    · rw [g4 j (by omega), wIk (by omega)]
    · by_cases e : j = k
      · subst e; rw [g4 _ (by omega), wIe]
      · exact g5 j (by omega) b
theorem sum2_L {σ : hM} {ex : Int32 → hM → Option (Int32 × hM)} (e2 : σ.1 0 32 = nI m) (r1 : σ.2.2 0 34 = some 20) (hm : m ≤ 8) : ∀ (d k fuel : Nat), k + d = m → d < fuel → fX9_ends_L70 kT2 0 ex fuel (smm (σ.1 20) k) (nI k) σ = ex (smm (σ.1 20) m) σ := by
  intro d
  induction d with
  | zero =>
    intro k fuel hk hf
    obtain ⟨f, rfl⟩ : ∃ f, fuel = f + 1 := ⟨fuel - 1, by omega⟩
    have e : k = m := by omega
    subst e
    rw [fX9_ends_L70, gI2, ob, e2, if_pos (nI_le (Nat.le_refl _) (by omega))]
  | succ d ih =>
    intro k fuel hk hf
    obtain ⟨f, rfl⟩ : ∃ f, fuel = f + 1 := ⟨fuel - 1, by omega⟩
    rw [fX9_ends_L70, gI2, ob, e2, if_neg (nI_ge (by omega) (by omega)), gR2, r1, ob, lA2 20 8 (k := k) (by omega), ob]
    simp only [iflt, nI_1]
    exact ih (k + 1) f (by omega) (by omega)
theorem turn2_L {x : Nat → Int32} {ex : Int32 → hM → Option (Int32 × hM)} (hm : m ≤ 8) : ∀ (d k fuel : Nat) (σ : hM), k + d = m → d < fuel → σ.1 0 32 = nI m → σ.2.2 0 34 = some 20 → (∀ j, k ≤ j → j < m → σ.1 20 j = x j) → ∃ σ' : hM, fX9_ends_L111 kT2 0 v ex fuel (if ch x v k = true then 1 else 0) (nI k) σ = ex (if ch x v m = true then 1 else 0) σ' ∧ σ'.2.2 = σ.2.2 ∧ (∀ a, a ≠ 20 → σ'.1 a = σ.1 a) ∧ (∀ j, j < k → σ'.1 20 j = σ.1 20 j) ∧ ∀ j, k ≤ j → j < m → σ'.1 20 j = x j + (v - x j) / 2 := by
  intro d
  induction d with
  | zero =>
    intro k fuel σ hk hf e2 r1 hx
    obtain ⟨f, rfl⟩ : ∃ f, fuel = f + 1 := ⟨fuel - 1, by omega⟩
    have e : k = m := by omega
    subst e
    rw [fX9_ends_L111, gI2, ob, e2, if_pos (nI_le (Nat.le_refl _) (by omega))]
    exact ⟨σ, rfl, rfl, fun _ _ => rfl, fun _ _ => rfl, fun j a b => absurd a (by omega)⟩
  | succ d ih =>
    intro k fuel σ hk hf e2 r1 hx
    obtain ⟨f, rfl⟩ : ∃ f, fuel = f + 1 := ⟨fuel - 1, by omega⟩
    have red : ∀ (b : Bool) (z : Int32) (K : Int32 → hM → Option (Int32 × hM)), (if (if b = true then (1 : Int32) else 0) = 0 then (if z = 0 then K 0 σ else K 1 σ) else K 1 σ) = K (if (b || decide (¬ z = 0)) = true then 1 else 0) σ := by
      intro b z K
      cases b with
      | true => rfl
      | false =>
        by_cases h : z = 0
        · rw [if_pos (by rfl), if_pos h, decide_eq_false (fun q => q h)]; rfl
        · rw [if_pos (by rfl), if_neg h, decide_eq_true h]; rfl
    rw [fX9_ends_L111, gI2, ob, e2, if_neg (nI_ge (by omega) (by omega)), gR2, r1, ob, lA2 20 8 (k := k) (by omega), ob]
    simp only [iflt, nI_1]
    rw [red (ch x v k) _ (fun x23 u24 => (gtr kT2 u24 0 9 34).bind fun a25 => (ald 11 kT2 u24 a25 (nI k)).bind fun x26 => (asti kT2 u24 a25 (nI k) (x26 + (v - σ.1 20 k) / 2)).bind fun u27 => fX9_ends_L111 kT2 0 v ex f x23 (nI (k + 1)) u27)]
    rw [gR2, r1, ob, lA2 20 8 (k := k) (by omega), ob, sA2 20 8 (k := k) (by omega), ob, hx k (Nat.le_refl k) (by omega)]
    obtain ⟨σ', g1, g2, g3, g4, g5⟩ := ih (k + 1) f (wI σ 20 k (x k + (v - x k) / 2)) (by omega) (by omega) (by rw [wIn (by decide)]; exact e2) r1 (fun j a b => by rw [wIk (by omega)]; exact hx j (by omega) b)
    refine ⟨σ', g1, g2, fun a ha => (g3 a ha).trans (wIn ha), fun j hj => ?_, fun j a b => ?_⟩
    · rw [g4 j (by omega), wIk (by omega)]
    · by_cases e : j = k
      · subst e; rw [g4 _ (by omega), wIe]
      · exact g5 j (by omega) b
theorem ends_L26 {ex : hM → Option (Int32 × hM)} (hm : m ≤ 8) : ∀ (d k fuel : Nat) (σ : hM), k + d = m → d < fuel → σ.1 0 32 = nI m → σ.2.2 0 34 = some 20 → σ.2.2 0 33 = some 19 → ∃ σ' : hM, fX9_ends_L26 kT2 0 ex fuel (nI k) σ = ex σ' ∧ σ'.2.2 = σ.2.2 ∧ (∀ a, a ≠ 20 → σ'.1 a = σ.1 a) ∧ (∀ j, j < k → σ'.1 20 j = σ.1 20 j) ∧ ∀ j, k ≤ j → j < m → σ'.1 20 j = σ.1 19 j := by
  intro d
  induction d with
  | zero =>
    intro k fuel σ hk hf e2 r1 r2
    obtain ⟨f, rfl⟩ : ∃ f, fuel = f + 1 := ⟨fuel - 1, by omega⟩
    have e : k = m := by omega
    subst e
    rw [fX9_ends_L26, gI2, ob, e2, if_pos (nI_le (Nat.le_refl _) (by omega))]
    exact ⟨σ, rfl, rfl, fun _ _ => rfl, fun _ _ => rfl, fun j a b => absurd a (by omega)⟩
  | succ d ih =>
    intro k fuel σ hk hf e2 r1 r2
    obtain ⟨f, rfl⟩ : ∃ f, fuel = f + 1 := ⟨fuel - 1, by omega⟩
    rw [fX9_ends_L26, gI2, ob, e2, if_neg (nI_ge (by omega) (by omega)), gR2, r1, ob, gR2, r2, ob, lA2 19 8 (k := k) (by omega), ob, sA2 20 8 (k := k) (by omega), ob]
    simp only [iflt, nI_1]
    obtain ⟨σ', g1, g2, g3, g4, g5⟩ := ih (k + 1) f (wI σ 20 k (σ.1 19 k)) (by omega) (by omega) (by rw [wIn (by decide)]; exact e2) r1 r2
    refine ⟨σ', g1, g2, fun a ha => (g3 a ha).trans (wIn ha), fun j hj => ?_, fun j a b => ?_⟩
    · rw [g4 j (by omega), wIk (by omega)]
    · by_cases e : j = k
      · subst e; rw [g4 _ (by omega), wIe]
      · rw [g5 j (by omega) b, wIn (by decide)]
end ENDS
/-! the numbers -/
theorem tdv (z m : Int) : z.tdiv m = if 0 ≤ z then z / m else -((-z) / m) := by
  by_cases h : 0 ≤ z
  · rw [if_pos h, Int.tdiv_eq_ediv_of_nonneg h]
  · rw [if_neg h, ← Int.tdiv_eq_ediv_of_nonneg (show 0 ≤ -z by omega), Int.neg_tdiv, Int.neg_neg]
theorem mean_in {s m lo hi : Int} (hm : 0 < m) (h1 : m * lo ≤ s) (h2 : s ≤ m * hi) : lo ≤ s.tdiv m ∧ s.tdiv m ≤ hi := by
  rw [tdv]
  by_cases h : 0 ≤ s
  · rw [if_pos h]
    exact ⟨Int.le_ediv_of_mul_le hm (by rw [Int.mul_comm]; exact h1), Int.ediv_le_of_le_mul hm (by rw [Int.mul_comm]; exact h2)⟩
  · rw [if_neg h]
    have a : -hi ≤ (-s) / m := Int.le_ediv_of_mul_le hm (by rw [Int.mul_comm, Int.mul_neg]; omega)
    have b : (-s) / m ≤ -lo := Int.ediv_le_of_le_mul hm (by rw [Int.mul_comm, Int.mul_neg]; omega)
    omega
theorem smm_in {x : Nat → Int32} {lo hi : Int} (hl : -1200 ≤ lo) (hh : hi ≤ 1200) : ∀ k : Nat, k ≤ 8 → (∀ j, j < k → lo ≤ (x j).toInt ∧ (x j).toInt ≤ hi) → ((k : Int) * lo ≤ (smm x k).toInt ∧ (smm x k).toInt ≤ (k : Int) * hi) ∧ -1200 * (k : Int) ≤ (smm x k).toInt ∧ (smm x k).toInt ≤ 1200 * (k : Int)
  | 0, _, _ => by
    rw [show smm x 0 = 0 from rfl, Int32.toInt_zero]
    simp
  | k + 1, hk, h => by
    obtain ⟨⟨a1, a2⟩, a3, a4⟩ := smm_in hl hh k (by omega) (fun j hj => h j (by omega))
    obtain ⟨b1, b2⟩ := h k (by omega)
    have e : (smm x (k + 1)).toInt = (smm x k).toInt + (x k).toInt := by
      show (smm x k + x k).toInt = _
      rw [Int32.toInt_add, fbm (by omega) (by omega)]
    have c1 : ((k + 1 : Nat) : Int) * lo = (k : Int) * lo + lo := by rw [Int.natCast_add, Int.add_mul]; simp
    have c2 : ((k + 1 : Nat) : Int) * hi = (k : Int) * hi + hi := by rw [Int.natCast_add, Int.add_mul]; simp
    rw [e, c1, c2]
    omega
theorem mean_v {x : Nat → Int32} {lo hi : Int} {m : Nat} (hl : -1200 ≤ lo) (hh : hi ≤ 1200) (h0 : 0 < m) (hm : m ≤ 8) (h : ∀ j, j < m → lo ≤ (x j).toInt ∧ (x j).toInt ≤ hi) : lo ≤ (smm x m / nI m).toInt ∧ (smm x m / nI m).toInt ≤ hi := by
  obtain ⟨⟨a1, a2⟩, -⟩ := smm_in hl hh m hm h
  have q := mean_in (m := (m : Int)) (by omega) a1 a2
  rw [Int32.toInt_div, nI_toInt (by omega), fbm (by omega) (by omega)]
  exact q
theorem half_v {v y : Int32} (hv : -1200 ≤ v.toInt ∧ v.toInt ≤ 1200) (hy : -1200 ≤ y.toInt ∧ y.toInt ≤ 1200) : ((v - y) / 2).toInt = (if 0 ≤ v.toInt - y.toInt then (v.toInt - y.toInt) / 2 else -((-(v.toInt - y.toInt)) / 2)) := by
  have e : (v - y).toInt = v.toInt - y.toInt := by rw [Int32.toInt_sub, fbm (by omega) (by omega)]
  rw [Int32.toInt_div, e, show (2 : Int32).toInt = 2 from rfl, ← tdv]
  refine fbm ?_ ?_ <;> rw [tdv] <;> split <;> omega
theorem move_v {v y : Int32} (hv : -1200 ≤ v.toInt ∧ v.toInt ≤ 1200) (hy : -1200 ≤ y.toInt ∧ y.toInt ≤ 1200) : (y + (v - y) / 2).toInt = y.toInt + (if 0 ≤ v.toInt - y.toInt then (v.toInt - y.toInt) / 2 else -((-(v.toInt - y.toInt)) / 2)) := by
  rw [Int32.toInt_add, half_v hv hy, fbm]
  · split <;> omega
  · split <;> omega
/-- a turn that changes something brings the bounds nearer -/
theorem turn_v {x : Nat → Int32} {v : Int32} {lo hi : Int} {m : Nat} (hl : -1200 ≤ lo) (hh : hi ≤ 1200) (h : ∀ j, j < m → lo ≤ (x j).toInt ∧ (x j).toInt ≤ hi) (hv : lo ≤ v.toInt ∧ v.toInt ≤ hi) (hc : ch x v m = true) : ∃ lo' hi', -1200 ≤ lo' ∧ hi' ≤ 1200 ∧ hi' - lo' + 1 = hi - lo ∧ 0 < hi - lo ∧ ∀ j, j < m → lo' ≤ (x j + (v - x j) / 2).toInt ∧ (x j + (v - x j) / 2).toInt ≤ hi' := by
  obtain ⟨i, hi', q⟩ := ch_ex m hc
  obtain ⟨a1, a2⟩ := h i hi'
  have q2 : ¬ ((v - x i) / 2).toInt = 0 := fun e => q (Int32.toInt_inj.mp (by rw [e, Int32.toInt_zero]))
  rw [half_v (by omega) (by omega)] at q2
  by_cases hs : 0 ≤ v.toInt - (x i).toInt
  · rw [if_pos hs] at q2
    refine ⟨lo + 1, hi, by omega, hh, by omega, by omega, fun j hj => ?_⟩
    obtain ⟨b1, b2⟩ := h j hj
    rw [move_v (by omega) (by omega)]
    split <;> omega
  · rw [if_neg hs] at q2
    refine ⟨lo, hi - 1, hl, by omega, by omega, by omega, fun j hj => ?_⟩
    obtain ⟨b1, b2⟩ := h j hj
    rw [move_v (by omega) (by omega)]
    split <;> omega
