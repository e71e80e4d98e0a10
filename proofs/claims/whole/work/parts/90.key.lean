/-! THE KEY: how many can sing the tune in it -/
def al (P : Nat → Bool) : Nat → Nat → Bool
  | _, 0 => true
  | k, d + 1 => P k && al P (k + 1) d
theorem al_cong {P Q : Nat → Bool} : ∀ d k, (∀ j, k ≤ j → j < k + d → P j = Q j) → al P k d = al Q k d
  | 0, _, _ => rfl
  | d + 1, k, h => by
    simp only [al]
    rw [h k (by omega) (by omega), al_cong d (k + 1) (fun j a b => h j (by omega) (by omega))]
section KEY
variable {σ : hM} {M n s c S : Nat} {lo hi : Int32}
theorem fits_L (kM : kd kT1 M (1 + 1)) (rM : σ.2.2 M 0 = some (M + 1)) (kM1 : kd kT1 (M + 1) 11) (kM1n : kl kT1 (M + 1) 40) (es : σ.1 M 2 = nI n) (hn : n ≤ 40) : ∀ (d k fuel : Nat), k + d = n → d < fuel → fX1_fitsWithin_L2 kT1 M lo hi (fun u6 => rtz (1 : Int32) u6) fuel (nI k) σ = some (if al (fun j => decide (lo ≤ σ.1 (M + 1) j ∧ σ.1 (M + 1) j ≤ hi)) k d = true then 1 else 0, σ) := by
  intro d
  induction d with
  | zero =>
    intro k fuel hk hf
    obtain ⟨f, rfl⟩ : ∃ f, fuel = f + 1 := ⟨fuel - 1, by omega⟩
    have e : n = k := by omega
    subst e
    rw [fX1_fitsWithin_L2, gI kM, ob, es, if_pos (nI_le (Nat.le_refl _) (by omega))]
    rfl
  | succ d ih =>
    intro k fuel hk hf
    obtain ⟨f, rfl⟩ : ∃ f, fuel = f + 1 := ⟨fuel - 1, by omega⟩
    rw [fX1_fitsWithin_L2, gI kM, ob, es, if_neg (nI_ge (by omega) (by omega)), gR kM, rM, ob, lA 40 kM1 kM1n (show k < 40 by omega) (by decide), ob, isW, ob]
    by_cases h : lo ≤ σ.1 (M + 1) k ∧ σ.1 (M + 1) k ≤ hi
    · rw [ifz1 h]
      simp only [iflt, nI_1]
      rw [ih (k + 1) f (by omega) (by omega)]
      simp only [al, decide_eq_true h, Bool.true_and]
    · rw [ifz0 h]
      simp only [al, decide_eq_false h, Bool.false_and]
      rfl
theorem within_L {x : Nat → Int32} {bq : Int32} {ex : Int32 → hM → Option (Int32 × hM)} (w1 : σ.2.2 0 1 = some 1) (w4 : σ.2.2 0 4 = some 3) (en : σ.1 0 0 = nI n) (hn : n ≤ 40) (hs : s < 12) (hok : sOk (fun j => σ.1 3 (8 * s + j))) : ∀ (d k fuel : Nat) (b : Bool), k + d = n → d < fuel → fX9_isWithin_L36 kT2 0 (nI s) bq ex fuel (if b = true then 1 else 0) (nI k) σ = ex (if (b && al (fun j => decide (vHeld (fun j => σ.1 3 (8 * s + j)) (σ.1 1 j + 100 * bq) = σ.1 1 j + 100 * bq)) k d) = true then 1 else 0) σ := by
  intro d
  induction d with
  | zero =>
    intro k fuel b hk hf
    obtain ⟨f, rfl⟩ : ∃ f, fuel = f + 1 := ⟨fuel - 1, by omega⟩
    have e : n = k := by omega
    subst e
    rw [fX9_isWithin_L36, gI2, ob, en, if_pos (nI_le (Nat.le_refl _) (by omega))]
    simp only [al, Bool.and_true]
  | succ d ih =>
    intro k fuel b hk hf
    obtain ⟨f, rfl⟩ : ∃ f, fuel = f + 1 := ⟨fuel - 1, by omega⟩
    rw [fX9_isWithin_L36, gI2, ob, en, if_neg (nI_ge (by omega) (by omega)), gR2, w1, ob, lA2 1 40 (k := k) (by omega), ob]
    simp only [iflt, nI_1]
    have i0 := ih (k + 1) f false (by omega) (by omega)
    have i1 := ih (k + 1) f true (by omega) (by omega)
    rw [if_neg (by decide), Bool.false_and, if_neg (by decide)] at i0
    rw [if_pos rfl, Bool.true_and] at i1
    cases b with
    | false =>
      rw [ifb0 (b := false) rfl, i0, Bool.false_and, if_neg (by decide)]
    | true =>
      rw [ifb1 (b := true) rfl, vC2, ev_held2 w4 hs hok, ob, Bool.true_and, al]
      by_cases h : vHeld (fun j => σ.1 3 (8 * s + j)) (σ.1 1 k + 100 * bq) = σ.1 1 k + 100 * bq
      · rw [if_pos h, i1, decide_eq_true h, Bool.true_and]
      · rw [if_neg h, i0, decide_eq_false h, Bool.false_and, if_neg (by decide)]
end KEY
/-- may one with these numbers sing the row d of n notes, moved by bq -/
def kAble (x d : Nat → Int32) (n : Nat) (bq : Int32) : Bool := (decide (x 0 ≠ 4) && decide (x 0 ≠ 7)) && al (fun j => decide (vHeld x (d j + 100 * bq) = d j + 100 * bq)) 0 n
def kMany (x : Nat → Nat → Int32) (d : Nat → Int32) (n : Nat) (bq : Int32) : Nat → Nat
  | 0 => 0
  | s + 1 => kMany x d n bq s + (if kAble (x s) d n bq = true then 1 else 0)
theorem kMany_le (x : Nat → Nat → Int32) (d : Nat → Int32) (n : Nat) (bq : Int32) : ∀ s, kMany x d n bq s ≤ s
  | 0 => Nat.le_refl _
  | s + 1 => by have := kMany_le x d n bq s; simp only [kMany]; split <;> omega
theorem held_iff {x : Nat → Int32} {p : Int32} (hok : sOk x) : vHeld x p = p ↔ 100 * x 5 ≤ p ∧ p ≤ 100 * vHigh x := by
  have hh := high_in hok
  obtain ⟨-, -, -, -, -, ⟨h1, h2, h3⟩, -⟩ := hok
  have e1 := toInt_100 (x := x 5) (by omega)
  have e2 := toInt_100 (x := vHigh x) (by omega)
  unfold vHeld
  generalize 100 * x 5 = a at e1 ⊢
  generalize 100 * vHigh x = b at e2 ⊢
  have hab : a.toInt ≤ b.toInt := by rw [e1, e2]; omega
  rw [← Int32.toInt_inj, Int32.le_iff_toInt_le, Int32.le_iff_toInt_le]
  by_cases q : p < b
  · rw [if_pos q]
    rw [Int32.lt_iff_toInt_lt] at q
    by_cases q2 : a < p
    · rw [if_pos q2]
      rw [Int32.lt_iff_toInt_lt] at q2
      omega
    · rw [if_neg q2]
      rw [Int32.lt_iff_toInt_lt] at q2
      omega
  · rw [if_neg q]
    rw [Int32.lt_iff_toInt_lt] at q
    by_cases q2 : a < b
    · rw [if_pos q2]
      rw [Int32.lt_iff_toInt_lt] at q2
      omega
    · rw [if_neg q2]
      rw [Int32.lt_iff_toInt_lt] at q2
      omega
theorem by_sub {x b : Int32} (hx : 0 ≤ x.toInt ∧ x.toInt ≤ 100) (hb : -12 ≤ b.toInt ∧ b.toInt ≤ 12) : (100 * (x - b)).toInt = 100 * x.toInt - 100 * b.toInt := by
  rw [Int32.toInt_mul, Int32.toInt_sub, show (100 : Int32).toInt = 100 from rfl, fbm (z := x.toInt - b.toInt) (by omega) (by omega), fbm (by omega) (by omega)]
  omega
theorem by_add {d b : Int32} (hd : 0 ≤ d.toInt ∧ d.toInt ≤ 3600) (hb : -12 ≤ b.toInt ∧ b.toInt ≤ 12) : (d + 100 * b).toInt = d.toInt + 100 * b.toInt := by
  rw [Int32.toInt_add, Int32.toInt_mul, show (100 : Int32).toInt = 100 from rfl, fbm (z := 100 * b.toInt) (by omega) (by omega), fbm (by omega) (by omega)]
theorem fit_iff {x : Nat → Int32} {d b : Int32} (hok : sOk x) (hd : 0 ≤ d.toInt ∧ d.toInt ≤ 3600) (hb : -12 ≤ b.toInt ∧ b.toInt ≤ 12) : decide (100 * (x 5 - b) ≤ d ∧ d ≤ 100 * (vHigh x - b)) = decide (vHeld x (d + 100 * b) = d + 100 * b) := by
  have hh := high_in hok
  obtain ⟨-, -, -, -, -, ⟨h1, h2, h3⟩, -⟩ := id hok
  have e1 := toInt_100 (x := x 5) (by omega)
  have e2 := toInt_100 (x := vHigh x) (by omega)
  refine decide_eq_decide.mpr ?_
  rw [held_iff hok, Int32.le_iff_toInt_le, Int32.le_iff_toInt_le, Int32.le_iff_toInt_le, Int32.le_iff_toInt_le, by_sub (by omega) hb, by_sub (by omega) hb, by_add hd hb, e1, e2]
  omega
