/-! ODDS, THE NEXT TASK, TYPES THAT NO TASK TELLS APART -/
def lkb (tk : Nat → Int32) (i : Nat) (ty : Int32) : Int32 := if (tk (4 * i + 3) &&& ty) = 0 then 0 else 1
def sh (tk : Nat → Int32) (i : Nat) (ty r : Int32) : Int32 := if r = 1 then (if (tk (4 * i + 3) &&& ty) = 0 then 100 - tk (4 * i + 1) else tk (4 * i + 2)) else 100 - (if (tk (4 * i + 3) &&& ty) = 0 then 100 - tk (4 * i + 1) else tk (4 * i + 2))
theorem i_100 (x : Int32) : 100 - (100 - x) = x := by grind
def od (w : Int64) (tk r : Nat → Int32) (ty : Int32) : Nat → Int64
  | 0 => w
  | k + 1 => if r k ≤ 0 then od w tk r ty k else od w tk r ty k * (sh tk k ty (r k)).toInt64
section ODDS
variable {σ σ1 σ2 : hM} {R t i N P : Nat} {ty p : Int32}
theorem ev_beyond (kR : kd kT1 R (7 + 1)) (eR : σ1.2.2 R 3 = some (R + 4)) (k4 : kd kT1 (R + 4) 11) (l4 : kl kT1 (R + 4) 6) (et : σ1.1 R 4 = nI t) (ht : t ≤ 6) (hi : i < t) {tk : Nat → Int32} (d4 : σ1.1 (R + 4) i = tk (4 * i + 3)) : fX7_isBeyond kT1 R (nI i) ty σ1 = some (lkb tk i ty, σ1) := by
  unfold fX7_isBeyond lkb
  rw [gI kR, ob, et, isW, ob, ifz1 ((inN (by omega)).mpr ⟨i, hi, rfl⟩), gR kR, eR, ob, lA 6 k4 l4 (by omega) (by decide), ob, d4]
  split <;> rfl
theorem ev_lacks (w6 : σ2.2.2 0 6 = some 4) (hi : i < 6) : fX9_lacks kT2 0 (nI i) ty σ2 = some (lkb (σ2.1 4) i ty, σ2) := by
  unfold fX9_lacks lkb
  rw [gR2, w6, ob, mul_nI 4 4 rfl, show nI (4 * i) + 3 = nI (4 * i + 3) from nI_add _ 3, lA2 4 24 (k := 4 * i + 3) (by omega), ob]
  split <;> rfl
theorem ev_share (w6 : σ2.2.2 0 6 = some 4) (hi : i < 6) : fX9_shareOf kT2 0 (nI i) ty p σ2 = some (sh (σ2.1 4) i ty p, σ2) := by
  unfold fX9_shareOf sh
  rw [vC2, ev_lacks w6 hi, ob]
  simp only [iflt]
  unfold lkb
  by_cases h : (σ2.1 4 (4 * i + 3) &&& ty) = 0
  · rw [if_pos h, if_pos (show ((0 : Int32), σ2).1 = 0 from rfl), gR2, w6, ob, mul_nI 4 4 rfl, show nI (4 * i) + 1 = nI (4 * i + 1) from nI_add _ 1, lA2 4 24 (k := 4 * i + 1) (by omega), ob]
    split <;> rfl
  · rw [if_neg h, if_neg (fun q => absurd (show (1 : Int32) = 0 from q) (by decide)), gR2, w6, ob, mul_nI 4 4 rfl, show nI (4 * i) + 2 = nI (4 * i + 2) from nI_add _ 2, lA2 4 24 (k := 4 * i + 2) (by omega), ob]
    split <;> rfl
/-- the class's tasks at R hold the numbers tk -/
def tkR (σ1 : hM) (R t : Nat) (tk : Nat → Int32) : Prop := kd kT1 R (7 + 1) ∧ (kd kT1 (R + 1) 11 ∧ kl kT1 (R + 1) 6) ∧ (kd kT1 (R + 2) 11 ∧ kl kT1 (R + 2) 6) ∧ (kd kT1 (R + 3) 11 ∧ kl kT1 (R + 3) 6) ∧ (kd kT1 (R + 4) 11 ∧ kl kT1 (R + 4) 6) ∧ (σ1.2.2 R 0 = some (R + 1) ∧ σ1.2.2 R 1 = some (R + 2) ∧ σ1.2.2 R 2 = some (R + 3) ∧ σ1.2.2 R 3 = some (R + 4)) ∧ σ1.1 R 4 = nI t ∧ t ≤ 6 ∧ ∀ i, i < t → σ1.1 (R + 1) i = tk (4 * i) ∧ σ1.1 (R + 2) i = tk (4 * i + 1) ∧ σ1.1 (R + 3) i = tk (4 * i + 2) ∧ σ1.1 (R + 4) i = tk (4 * i + 3)
theorem ev_percent {tk : Nat → Int32} (h : tkR σ1 R t tk) (hi : i < t) (hp : p = 0 ∨ p = 1) : fX7_percent kT1 R (nI i) ty p σ1 = some (sh tk i ty (if p = 0 then 2 else 1), σ1) := by
  obtain ⟨kR, ⟨k1, l1⟩, ⟨k2, l2⟩, ⟨k3, l3⟩, ⟨k4, l4⟩, ⟨e0, e1, e2, e3⟩, et, ht, hk⟩ := h
  obtain ⟨d1, d2, d3, d4⟩ := hk i hi
  unfold fX7_percent sh
  rw [gI kR, ob, et, isW, ob, ifz1 ((inN (by omega)).mpr ⟨i, hi, rfl⟩), vC kR, ev_beyond kR e3 k4 l4 et ht hi d4, ob]
  unfold lkb
  by_cases h : (tk (4 * i + 3) &&& ty) = 0
  · rw [if_pos h, if_pos (show ((0 : Int32), σ1).1 = 0 from rfl)]
    rcases hp with rfl | rfl
    · rw [if_pos rfl, gR kR, e1, ob, lA 6 k2 l2 (by omega) (by decide), ob, d2, if_neg (by decide), if_pos h, i_100]
    · rw [if_neg (by decide), gR kR, e1, ob, lA 6 k2 l2 (by omega) (by decide), ob, d2, if_pos (by decide), if_pos h]
  · rw [if_neg h, if_neg (fun q => absurd (show (1 : Int32) = 0 from q) (by decide))]
    rcases hp with rfl | rfl
    · rw [if_pos rfl, gR kR, e2, ob, lA 6 k3 l3 (by omega) (by decide), ob, d3, if_neg (by decide), if_neg h]
    · rw [if_neg (by decide), gR kR, e2, ob, lA 6 k3 l3 (by omega) (by decide), ob, d3, if_pos (by decide), if_neg h]
/-- the class's results -/
def rsN (σ1 : hM) (t N P : Nat) (r : Nat → Int32) : Prop := σ1.2.2 0 6 = some 32 ∧ N < 64 ∧ P < 64 ∧ σ1.1 32 4 = nI N ∧ σ1.1 32 5 = nI P ∧ ∀ i, i < 6 → (r i = 0 ∨ r i = 1 ∨ r i = 2) ∧ N.testBit i = decide (r i ≠ 0) ∧ P.testBit i = decide (r i = 1) ∧ (t ≤ i → r i = 0)
theorem ev_oddsNow_L {tk r : Nat → Int32} {ex : Int64 → hM → Option (Int64 × hM)} {w : Int64} (h : tkR σ1 R t tk) (e03 : σ1.2.2 0 3 = some R) (hr : rsN σ1 t N P r) : ∀ (d k fuel : Nat), k + d = t → d < fuel → fX8_oddsNow_L14 kT1 0 ty ex fuel (od w tk r ty k) (nI k) σ1 = ex (od w tk r ty t) σ1 := by
  have h' := h
  obtain ⟨kR, -, -, -, -, -, et, ht, -⟩ := h'
  obtain ⟨e06, hN, hP, eN, eP, hb⟩ := hr
  intro d
  induction d with
  | zero =>
    intro k fuel hk hf
    obtain ⟨f, rfl⟩ : ∃ f, fuel = f + 1 := ⟨fuel - 1, by omega⟩
    have e : t = k := by omega
    subst e
    rw [fX8_oddsNow_L14, gR1 0 8, e03, ob, gI kR, ob, et, if_pos (nI_le (Nat.le_refl _) (by omega))]
  | succ d ih =>
    intro k fuel hk hf
    obtain ⟨f, rfl⟩ : ∃ f, fuel = f + 1 := ⟨fuel - 1, by omega⟩
    rw [fX8_oddsNow_L14, gR1 0 8, e03, ob, gI kR, ob, et, if_neg (nI_ge (by omega) (by omega)), gR1 0 8, e06, ob, vC1 32 5, ev_isDone (A := 32) rfl eN hN (show k < 6 by omega), ob]
    simp only [iflt, nI_1]
    have q := ih (k + 1) f (by omega) (by omega)
    simp only [od] at q
    obtain ⟨b1, b2, b3, -⟩ := hb k (by omega)
    by_cases h0 : r k = 0
    · rw [ifb0 (by rw [b2, h0]; rfl)]
      rw [if_pos (by rw [h0]; decide)] at q
      exact q
    · have hpos : ¬ r k ≤ 0 := by rcases b1 with z | z | z; exact absurd z h0; rw [z]; decide; rw [z]; decide
      rw [ifb1 (by rw [b2]; simp [h0]), gR1 0 8, e03, ob, gR1 0 8, e06, ob, vC1 32 5, ev_isPassed (A := 32) rfl eP hP (show k < 6 by omega), ob, vC kR]
      rw [if_neg hpos] at q
      have e2 : fX7_percent kT1 R (nI k) ty (if P.testBit k = true then 1 else 0) σ1 = some (sh tk k ty (r k), σ1) := by
        rw [ev_percent h (show k < t by omega) (by split; exact Or.inr rfl; exact Or.inl rfl)]
        rcases b1 with z | z | z
        · exact absurd z h0
        · rw [b3, z]; rfl
        · rw [b3, z]; rfl
      rw [e2, ob]
      exact q
theorem ev_oddsNow {tk r : Nat → Int32} {k : Nat} (h : tkR σ1 R t tk) (e03 : σ1.2.2 0 3 = some R) (hr : rsN σ1 t N P r) (e1 : σ1.2.2 32 1 = some 35) (hk : k < 16) : fX8_oddsNow kT1 0 (nI k) σ1 = some (od (σ1.1 35 k).toInt64 tk r (nI k) t, σ1) := by
  have q := ev_oddsNow_L (ty := nI k) (w := (σ1.1 35 k).toInt64) (ex := fun x9 u10 => some (x9, u10)) h e03 hr t 0 6000 (by omega) (by have := h.2.2.2.2.2.2.2.1; omega)
  rw [nI_0] at q
  unfold fX8_oddsNow
  rw [gR1 0 8, hr.1, ob, gR1 32 5, e1, ob, lA1 35 16 (k := k) (by omega), ob]
  exact q
theorem ev_oddsOf_L {ex : Int64 → hM → Option (Int64 × hM)} {w : Int64} (w6 : σ2.2.2 0 6 = some 4) (w8 : σ2.2.2 0 8 = some 6) (e5 : σ2.1 0 5 = nI t) (ht : t ≤ 6) : ∀ (d k fuel : Nat), k + d = t → d < fuel → fX9_oddsOf_L11 kT2 0 ty ex fuel (od w (σ2.1 4) (σ2.1 6) ty k) (nI k) σ2 = ex (od w (σ2.1 4) (σ2.1 6) ty t) σ2 := by
  intro d
  induction d with
  | zero =>
    intro k fuel hk hf
    obtain ⟨f, rfl⟩ : ∃ f, fuel = f + 1 := ⟨fuel - 1, by omega⟩
    have e : t = k := by omega
    subst e
    rw [fX9_oddsOf_L11, gI2, ob, e5, if_pos (nI_le (Nat.le_refl _) (by omega))]
  | succ d ih =>
    intro k fuel hk hf
    obtain ⟨f, rfl⟩ : ∃ f, fuel = f + 1 := ⟨fuel - 1, by omega⟩
    rw [fX9_oddsOf_L11, gI2, ob, e5, if_neg (nI_ge (by omega) (by omega)), gR2, w8, ob, lA2 6 6 (k := k) (by omega), ob]
    simp only [iflt, nI_1]
    have q := ih (k + 1) f (by omega) (by omega)
    simp only [od] at q
    by_cases h0 : σ2.1 6 k ≤ 0
    · rw [if_pos h0, Int64.mul_one]
      rw [if_pos h0] at q
      exact q
    · rw [if_neg h0, ob, lA2 6 6 (k := k) (by omega), ob, vC2, ev_share w6 (show k < 6 by omega), ob]
      rw [if_neg h0] at q
      exact q
theorem ev_oddsOf {k : Nat} (w6 : σ2.2.2 0 6 = some 4) (w8 : σ2.2.2 0 8 = some 6) (w7 : σ2.2.2 0 7 = some 5) (e5 : σ2.1 0 5 = nI t) (ht : t ≤ 6) (hk : k < 16) : fX9_oddsOf kT2 0 (nI k) σ2 = some (od (σ2.1 5 k).toInt64 (σ2.1 4) (σ2.1 6) (nI k) t, σ2) := by
  have q := ev_oddsOf_L (ty := nI k) (w := (σ2.1 5 k).toInt64) (ex := fun x9 u10 => some (x9, u10)) w6 w8 e5 ht t 0 6000 (by omega) (by omega)
  rw [nI_0] at q
  unfold fX9_oddsOf
  rw [gR2, w7, ob, lA2 5 16 (k := k) (by omega), ob]
  exact q
def sm (f : Nat → Int64) : Nat → Int64
  | 0 => 0
  | k + 1 => sm f k + f k
def gr (f : Nat → Int64) : Nat → Int64
  | 0 => 0
  | k + 1 => if f k ≤ gr f k then gr f k else f k
theorem ev_all_L {ex : Int64 → hM → Option (Int64 × hM)} (w6 : σ2.2.2 0 6 = some 4) (w8 : σ2.2.2 0 8 = some 6) (w7 : σ2.2.2 0 7 = some 5) (e5 : σ2.1 0 5 = nI t) (ht : t ≤ 6) : ∀ (d k fuel : Nat), k + d = 16 → d < fuel → fX9_allOdds_L4 kT2 0 ex fuel (sm (fun k => od (σ2.1 5 k).toInt64 (σ2.1 4) (σ2.1 6) (nI k) t) k) (nI k) σ2 = ex (sm (fun k => od (σ2.1 5 k).toInt64 (σ2.1 4) (σ2.1 6) (nI k) t) 16) σ2 := by
  intro d
  induction d with
  | zero =>
    intro k fuel hk hf
    obtain ⟨f, rfl⟩ : ∃ f, fuel = f + 1 := ⟨fuel - 1, by omega⟩
    have e : k = 16 := by omega
    subst e
    rw [fX9_allOdds_L4, if_pos (by decide)]
  | succ d ih =>
    intro k fuel hk hf
    obtain ⟨f, rfl⟩ : ∃ f, fuel = f + 1 := ⟨fuel - 1, by omega⟩
    rw [fX9_allOdds_L4, if_neg (show ¬ (16 : Int32) ≤ nI k from nI_ge (b := 16) (by omega) (by decide)), vC2, ev_oddsOf w6 w8 w7 e5 ht (by omega), ob]
    simp only [iflt, nI_1]
    exact ih (k + 1) f (by omega) (by omega)
theorem ev_great_L {ex : Int64 → hM → Option (Int64 × hM)} (w6 : σ2.2.2 0 6 = some 4) (w8 : σ2.2.2 0 8 = some 6) (w7 : σ2.2.2 0 7 = some 5) (e5 : σ2.1 0 5 = nI t) (ht : t ≤ 6) : ∀ (d k fuel : Nat), k + d = 16 → d < fuel → fX9_greatest_L4 kT2 0 ex fuel (gr (fun k => od (σ2.1 5 k).toInt64 (σ2.1 4) (σ2.1 6) (nI k) t) k) (nI k) σ2 = ex (gr (fun k => od (σ2.1 5 k).toInt64 (σ2.1 4) (σ2.1 6) (nI k) t) 16) σ2 := by
  intro d
  induction d with
  | zero =>
    intro k fuel hk hf
    obtain ⟨f, rfl⟩ : ∃ f, fuel = f + 1 := ⟨fuel - 1, by omega⟩
    have e : k = 16 := by omega
    subst e
    rw [fX9_greatest_L4, if_pos (by decide)]
  | succ d ih =>
    intro k fuel hk hf
    obtain ⟨f, rfl⟩ : ∃ f, fuel = f + 1 := ⟨fuel - 1, by omega⟩
    rw [fX9_greatest_L4, if_neg (show ¬ (16 : Int32) ≤ nI k from nI_ge (b := 16) (by omega) (by decide)), vC2, ev_oddsOf w6 w8 w7 e5 ht (by omega), ob]
    simp only [iflt, nI_1]
    exact ih (k + 1) f (by omega) (by omega)
theorem ev_allOdds (w6 : σ2.2.2 0 6 = some 4) (w8 : σ2.2.2 0 8 = some 6) (w7 : σ2.2.2 0 7 = some 5) (e5 : σ2.1 0 5 = nI t) (ht : t ≤ 6) : fX9_allOdds kT2 0 σ2 = some (sm (fun k => od (σ2.1 5 k).toInt64 (σ2.1 4) (σ2.1 6) (nI k) t) 16, σ2) := by
  have q := ev_all_L (ex := fun x9 u10 => some (x9, u10)) w6 w8 w7 e5 ht 16 0 6000 (by omega) (by omega)
  rw [nI_0] at q
  unfold fX9_allOdds
  exact q
theorem ev_greatest (w6 : σ2.2.2 0 6 = some 4) (w8 : σ2.2.2 0 8 = some 6) (w7 : σ2.2.2 0 7 = some 5) (e5 : σ2.1 0 5 = nI t) (ht : t ≤ 6) : fX9_greatest kT2 0 σ2 = some (gr (fun k => od (σ2.1 5 k).toInt64 (σ2.1 4) (σ2.1 6) (nI k) t) 16, σ2) := by
  have q := ev_great_L (ex := fun x9 u10 => some (x9, u10)) w6 w8 w7 e5 ht 16 0 6000 (by omega) (by omega)
  rw [nI_0] at q
  unfold fX9_greatest
  exact q
theorem ev_odds_L {tk r : Nat → Int32} {ex : Int64 → hM → Option (Int64 × hM)} (h : tkR σ1 R t tk) (e03 : σ1.2.2 0 3 = some R) (hr : rsN σ1 t N P r) (e1 : σ1.2.2 32 1 = some 35) : ∀ (d k fuel : Nat), k + d = 16 → d < fuel → fX8_odds_L27 kT1 0 ex fuel (sm (fun k => od (σ1.1 35 k).toInt64 tk r (nI k) t) k) (nI k) σ1 = ex (sm (fun k => od (σ1.1 35 k).toInt64 tk r (nI k) t) 16) σ1 := by
  intro d
  induction d with
  | zero =>
    intro k fuel hk hf
    obtain ⟨f, rfl⟩ : ∃ f, fuel = f + 1 := ⟨fuel - 1, by omega⟩
    have e : k = 16 := by omega
    subst e
    rw [fX8_odds_L27, if_pos (by decide)]
  | succ d ih =>
    intro k fuel hk hf
    obtain ⟨f, rfl⟩ : ∃ f, fuel = f + 1 := ⟨fuel - 1, by omega⟩
    rw [fX8_odds_L27, if_neg (show ¬ (16 : Int32) ≤ nI k from nI_ge (b := 16) (by omega) (by decide)), vC1 0 8, ev_oddsNow h e03 hr e1 (by omega), ob]
    simp only [iflt, nI_1]
    exact ih (k + 1) f (by omega) (by omega)
theorem sm_cong {f g : Nat → Int64} : ∀ k, (∀ j, j < k → f j = g j) → sm f k = sm g k
  | 0, _ => rfl
  | k + 1, q => by simp only [sm]; rw [sm_cong k (fun j hj => q j (by omega)), q k (by omega)]
theorem gr_cong {f g : Nat → Int64} : ∀ k, (∀ j, j < k → f j = g j) → gr f k = gr g k
  | 0, _ => rfl
  | k + 1, q => by simp only [gr]; rw [gr_cong k (fun j hj => q j (by omega)), q k (by omega)]
end ODDS
theorem s_odds : st_odds Cpl := by
  intro σ1 σ2 hC p1
  obtain ⟨M, M', R, R', S, S', n, c, t, hC⟩ := hC
  have hQ := hC
  obtain ⟨hr, hf2, hT, hm, hc2, ht, hst, hcr, hb, hi0, hi1⟩ := hQ
  have hr0 := hr
  have hf20 := hf2
  obtain ⟨hMe, hR, hS, e01, e02, e03, e04, e05, e322, ⟨o0_0, o0_6, o0_7, o0_8, o0_9, o0_10, o0_12, o0_13, o1_0, o32_0, o32_1, o33_0, o98_0, o94_0, o94_1, o84_0, o84_1, o49_0, o49_1, o50_0, o51_0, o50_1, o50_2, o67_0, o68_0, o67_1, o67_2, o3_0, o3_1, o6_0, o6_1, o9_0, o9_1, o9_2, o9_3, o14_0, o14_1, o14_2, o14_3⟩, hrow, hodd⟩ := hr0
  obtain ⟨w1, w2, w4, w6, w7, w8, w10, w12, w21, w22, w24, w25, w26, w27, w28, w29, w30, w31, w33, w34, w36, w37, w38⟩ := hf20
  obtain ⟨kM, kM1, kM1n, kM2, kM2n⟩ := kMel hMe
  obtain ⟨kR, ⟨kR1, kR1n⟩, ⟨kR2, kR2n⟩, ⟨kR3, kR3n⟩, ⟨kR4, kR4n⟩⟩ := kTri hR
  obtain ⟨⟨kS, kSn⟩, kSs⟩ := kRow hS
  obtain ⟨em0, em1⟩ := hr.mel
  obtain ⟨et0, et1, et2, et3⟩ := hr.tri
  have erow := hr.row
  obtain ⟨hn40, hn1, hn2, hnk⟩ := id hm
  obtain ⟨ht6, ht1, ht2, htk⟩ := id ht
  obtain ⟨hc12, hc2e⟩ := id hc2
  obtain ⟨hs3, hsw, hsr, hss, hsg, hse, hse0⟩ := id hst
  obtain ⟨N, P, hN, hP, eN, eP, hNP⟩ := id hsr
  have hk : tkR σ1 R t (σ2.1 4) := ⟨kR, ⟨kR1, kR1n⟩, ⟨kR2, kR2n⟩, ⟨kR3, kR3n⟩, ⟨kR4, kR4n⟩, ⟨et0, et1, et2, et3⟩, ht1, ht6, fun i hi => (htk i hi).1⟩
  have hr' : rsN σ1 t N P (σ2.1 6) := ⟨o0_6, hN, hP, eN, eP, hNP⟩
  unfold fX8_odds fX9_odds
  rw [ev_isType1, ob]
  by_cases h : 0 ≤ p1 ∧ p1 ≤ 15
  · obtain ⟨k, hk16, rfl⟩ := (inK 15 rfl (by decide)).mp h
    rw [ifz1 h, if_neg (nI_m1 (by omega)), in9 0 15 (L := 0) (H := 15) rfl rfl, ob, ifz1 h, vC1 0 8, ev_oddsNow hk e03 hr' o32_1 hk16, ob, vC2, ev_oddsOf w6 w8 w7 ht2 ht6 hk16, ob, show σ1.1 35 k = σ2.1 5 k from (hsw k hk16).1]
    exact ⟨_, σ1, σ2, rfl, rfl, ⟨M, M', R, R', S, S', n, c, t, hC⟩⟩
  · rw [ifz0 h]
    by_cases h1 : p1 = -1
    · rw [if_pos h1, if_pos h1, vC2, ev_allOdds w6 w8 w7 ht2 ht6, ob]
      have q := ev_odds_L (ex := fun x9 u10 => some (x9, u10)) hk e03 hr' o32_1 16 0 6000 (by omega) (by omega)
      rw [nI_0, sm_cong 16 (fun j hj => by rw [show σ1.1 35 j = σ2.1 5 j from (hsw j hj).1])] at q
      exact ⟨_, σ1, σ2, q, rfl, ⟨M, M', R, R', S, S', n, c, t, hC⟩⟩
    · rw [if_neg h1, if_neg h1, in9 0 15 (L := 0) (H := 15) rfl rfl, ob, ifz0 h]
      exact ⟨_, σ1, σ2, rfl, rfl, ⟨M, M', R, R', S, S', n, c, t, hC⟩⟩
