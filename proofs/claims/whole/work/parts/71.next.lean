theorem mx (x v : Int64) : (if x < v then v else x) = if x ≤ v then v else x := by
  by_cases h1 : x < v
  · rw [if_pos h1, if_pos (by rw [Int64.lt_iff_toInt_lt] at h1; rw [Int64.le_iff_toInt_le]; omega)]
  · rw [if_neg h1]
    by_cases h2 : x ≤ v
    · rw [if_pos h2]
      exact Int64.toInt_inj.mp (by rw [Int64.lt_iff_toInt_lt] at h1; rw [Int64.le_iff_toInt_le] at h2; omega)
    · rw [if_neg h2]
theorem od_at {w : Int64} {tk r r' : Nat → Int32} {ty : Int32} {i : Nat} (h0 : r i = 0) (h1 : ¬ r' i ≤ 0) (hs : ∀ j, j ≠ i → r' j = r j) : ∀ k, od w tk r' ty k = if i < k then od w tk r ty k * (sh tk i ty (r' i)).toInt64 else od w tk r ty k
  | 0 => rfl
  | k + 1 => by
    have ih := od_at (w := w) (tk := tk) (ty := ty) h0 h1 hs k
    simp only [od]
    by_cases e : k = i
    · subst e
      rw [if_neg h1, ih, if_neg (Nat.lt_irrefl k), if_pos (Nat.lt_succ_self k), h0, if_pos (by decide)]
    · rw [hs k e, ih]
      by_cases l : i < k
      · rw [if_pos l, if_pos (show i < k + 1 by omega)]
        split
        · rfl
        · generalize od w tk r ty k = a; generalize (sh tk i ty (r' i)).toInt64 = b; generalize (sh tk k ty (r k)).toInt64 = c; grind
      · rw [if_neg l, if_neg (show ¬ i < k + 1 by omega)]
section NEXT
variable {σ1 σ2 : hM} {R t N P i : Nat} {p : Int32}
theorem ev_gw_L {tk r : Nat → Int32} {ex : Int64 → hM → Option (Int64 × hM)} (h : tkR σ1 R t tk) (e03 : σ1.2.2 0 3 = some R) (hr : rsN σ1 t N P r) (e1 : σ1.2.2 32 1 = some 35) (hi : i < t) (hp : p = 0 ∨ p = 1) : ∀ (d k fuel : Nat), k + d = 16 → d < fuel → fX8_greatestWith_L5 kT1 0 (nI i) p ex fuel (gr (fun k => od (σ1.1 35 k).toInt64 tk r (nI k) t * (sh tk i (nI k) (if p = 0 then 2 else 1)).toInt64) k) (nI k) σ1 = ex (gr (fun k => od (σ1.1 35 k).toInt64 tk r (nI k) t * (sh tk i (nI k) (if p = 0 then 2 else 1)).toInt64) 16) σ1 := by
  intro d
  induction d with
  | zero =>
    intro k fuel hk hf
    obtain ⟨f, rfl⟩ : ∃ f, fuel = f + 1 := ⟨fuel - 1, by omega⟩
    have e : k = 16 := by omega
    subst e
    rw [fX8_greatestWith_L5, if_pos (by decide)]
  | succ d ih =>
    intro k fuel hk hf
    obtain ⟨f, rfl⟩ : ∃ f, fuel = f + 1 := ⟨fuel - 1, by omega⟩
    rw [fX8_greatestWith_L5, if_neg (show ¬ (16 : Int32) ≤ nI k from nI_ge (b := 16) (by omega) (by decide)), vC1 0 8, ev_oddsNow h e03 hr e1 (by omega), ob, gR1 0 8, e03, ob, vC h.1, ev_percent h hi hp, ob]
    simp only [iflt, nI_1]
    have q := ih (k + 1) f (by omega) (by omega)
    rw [← q]
    congr 1
    exact mx _ _
theorem ev_gw {tk r : Nat → Int32} (h : tkR σ1 R t tk) (e03 : σ1.2.2 0 3 = some R) (hr : rsN σ1 t N P r) (e1 : σ1.2.2 32 1 = some 35) (hi : i < t) (hp : p = 0 ∨ p = 1) : fX8_greatestWith kT1 0 (nI i) p σ1 = some (gr (fun k => od (σ1.1 35 k).toInt64 tk r (nI k) t * (sh tk i (nI k) (if p = 0 then 2 else 1)).toInt64) 16, σ1) := by
  have q := ev_gw_L (ex := fun x9 u10 => some (x9, u10)) h e03 hr e1 hi hp 16 0 6000 (by omega) (by omega)
  rw [nI_0] at q
  unfold fX8_greatestWith
  exact q
theorem ev_partsBy (w6 : σ2.2.2 0 6 = some 4) (w8 : σ2.2.2 0 8 = some 6) (w7 : σ2.2.2 0 7 = some 5) (e5 : σ2.1 0 5 = nI t) (ht : t ≤ 6) (hi : i < t) (h0 : σ2.1 6 i = 0) : fX9_partsBy kT2 0 (nI i) σ2 = some (gr (fun k => od (σ2.1 5 k).toInt64 (σ2.1 4) (σ2.1 6) (nI k) t * (sh (σ2.1 4) i (nI k) 1).toInt64) 16 + gr (fun k => od (σ2.1 5 k).toInt64 (σ2.1 4) (σ2.1 6) (nI k) t * (sh (σ2.1 4) i (nI k) 2).toInt64) 16, wI (wI (wI σ2 6 i 1) 6 i 2) 6 i 0) := by
  have g1 := ev_greatest (σ2 := wI σ2 6 i 1) (t := t) w6 w8 w7 (by rw [wIn (by decide)]; exact e5) ht
  have g2 := ev_greatest (σ2 := wI (wI σ2 6 i 1) 6 i 2) (t := t) w6 w8 w7 (by rw [wIn (by decide), wIn (by decide)]; exact e5) ht
  rw [gr_cong (g := fun k => od (σ2.1 5 k).toInt64 (σ2.1 4) (σ2.1 6) (nI k) t * (sh (σ2.1 4) i (nI k) 1).toInt64) 16 (fun k hk => by
    rw [od_at (r := σ2.1 6) h0 (by rw [wIe]; decide) (fun j hj => wIk (fun q => hj q.2)) t, if_pos hi, wIe, wIn (show 5 ≠ 6 by decide), wIn (show 4 ≠ 6 by decide)])] at g1
  rw [gr_cong (g := fun k => od (σ2.1 5 k).toInt64 (σ2.1 4) (σ2.1 6) (nI k) t * (sh (σ2.1 4) i (nI k) 2).toInt64) 16 (fun k hk => by
    rw [od_at (r := σ2.1 6) h0 (by rw [wIe]; decide) (fun j hj => (wIk (fun q => hj q.2)).trans (wIk (fun q => hj q.2))) t, if_pos hi, wIe, wIn (show 5 ≠ 6 by decide), wIn (show 5 ≠ 6 by decide), wIn (show 4 ≠ 6 by decide), wIn (show 4 ≠ 6 by decide)])] at g2
  unfold fX9_partsBy
  rw [gR2, w8, ob, sA2 6 6 (k := i) (by omega), ob, vC2, g1, ob, gR2, wrr, w8, ob, sA2 6 6 (k := i) (by omega), ob, vC2, g2, ob]
  simp only [iflt]
  rw [gR2, wrr, wrr, w8, ob, sA2 6 6 (k := i) (by omega), ob]
end NEXT
theorem s_next : st_next Cpl := by
  intro σ1 σ2 hC
  obtain ⟨M, M', R, R', S, S', n, c, t, hC⟩ := hC
  have hQ := hC
  obtain ⟨hr, hf2, hT, hm, hc2, ht, hst, hcr, hb, hi0, hi1⟩ := hQ
  have hr0 := hr
  have hf20 := hf2
  obtain ⟨hMe, hR, hS, e01, e02, e03, e04, e05, e322, ⟨o0_0, o0_6, o0_7, o0_8, o0_9, o0_10, o0_12, o0_13, o1_0, o32_0, o32_1, o33_0, o98_0, o94_0, o94_1, o84_0, o84_1, o49_0, o49_1, o50_0, o51_0, o50_1, o50_2, o67_0, o68_0, o67_1, o67_2, o3_0, o3_1, o6_0, o6_1, o9_0, o9_1, o9_2, o9_3, o14_0, o14_1, o14_2, o14_3⟩, hrow, hodd⟩ := hr0
  obtain ⟨w1, w2, w4, w6, w7, w8, w10, w12, w21, w22, w24, w25, w26, w27, w28, w29, w30, w31, w33, w34, w36, w37, w38⟩ := hf20
  obtain ⟨kM, kM1, kM1n, kM2, kM2n⟩ := kMel hMe
  obtain ⟨kR, ⟨kR1, kR1n⟩, ⟨kR2, kR2n⟩, ⟨kR3, kR3n⟩, ⟨kR4, kR4n⟩⟩ := kTri hR
  obtain ⟨⟨kS, kSn⟩, kSs⟩ := kRow hS
  obtain ⟨em0, em1⟩ := hr.mel
  obtain ⟨et0, et1, et2, et3⟩ := hr.tri
  have erow := hr.row
  obtain ⟨hn40, hn1, hn2, hnk⟩ := id hm
  obtain ⟨ht6, ht1, ht2, htk⟩ := id ht
  obtain ⟨hc12, hc2e⟩ := id hc2
  obtain ⟨hs3, hsw, hsr, hss, hsg, hse, hse0⟩ := id hst
  obtain ⟨N, P, hN, hP, eN, eP, hNP⟩ := id hsr
  have hk : tkR σ1 R t (σ2.1 4) := ⟨kR, ⟨kR1, kR1n⟩, ⟨kR2, kR2n⟩, ⟨kR3, kR3n⟩, ⟨kR4, kR4n⟩, ⟨et0, et1, et2, et3⟩, ht1, ht6, fun i hi => (htk i hi).1⟩
  have hr' : rsN σ1 t N P (σ2.1 6) := ⟨o0_6, hN, hP, eN, eP, hNP⟩
  have key : ∀ (d k fuel : Nat) (b : Int32) (m : Int64) (u : hM), k + d = t → d < fuel → (b = -1 ∨ ∃ j, j < t ∧ b = nI j) → u.2.2 = σ2.2.2 → u.1 = σ2.1 → ∃ (r : Int32) (u' : hM), fX8_next_L7 kT1 0 (fun x9 u10 => some (x9, u10)) fuel b m (nI k) σ1 = some (r, σ1) ∧ fX9_next_L7 kT2 0 (fun x9 u10 => some (x9, u10)) fuel b m (nI k) u = some (r, u') ∧ u'.2.2 = σ2.2.2 ∧ u'.1 = σ2.1 := by
    intro d
    induction d with
    | zero =>
      intro k fuel b m u hk' hf hb' hu2 hu1
      obtain ⟨f, rfl⟩ : ∃ f, fuel = f + 1 := ⟨fuel - 1, by omega⟩
      have e : k = t := by omega
      subst e
      rw [fX8_next_L7, fX9_next_L7, gR1 0 8, e03, ob, gI kR, ob, ht1, gI2, ob, hu1, ht2, if_pos (nI_le (Nat.le_refl _) (by omega)), if_pos (nI_le (Nat.le_refl _) (by omega))]
      exact ⟨_, _, rfl, rfl, hu2, hu1⟩
    | succ d ih =>
      intro k fuel b m u hk' hf hb' hu2 hu1
      obtain ⟨f, rfl⟩ : ∃ f, fuel = f + 1 := ⟨fuel - 1, by omega⟩
      have hkt : k < t := by omega
      rw [fX8_next_L7, fX9_next_L7, gR1 0 8, e03, ob, gI kR, ob, ht1, gI2, ob, hu1, ht2, if_neg (nI_ge hkt (by omega)), if_neg (nI_ge hkt (by omega)), gR1 0 8, o0_6, ob, vC1 32 5, ev_isDone (A := 32) rfl eN hN (show k < 6 by omega), ob, gR2, hu2, w8, ob, lA2 6 6 (k := k) (by omega), ob, hu1]
      simp only [iflt, nI_1]
      have nx := fun (b : Int32) (m : Int64) (u : hM) => ih (k + 1) f b m u (by omega) (by omega)
      obtain ⟨b1, b2, -, -⟩ := hNP k (by omega)
      by_cases h0 : σ2.1 6 k = 0
      · rw [ifb0 (by rw [b2, h0]; rfl), if_pos h0, vC1 0 8, ev_gw hk e03 hr' o32_1 hkt (Or.inr rfl), ob, vC1 0 8, ev_gw hk e03 hr' o32_1 hkt (Or.inl rfl), ob, vC2, ev_partsBy (σ2 := u) (t := t) (by rw [hu2]; exact w6) (by rw [hu2]; exact w8) (by rw [hu2]; exact w7) (by rw [hu1]; exact ht2) ht6 hkt (by rw [hu1]; exact h0), ob]
        have hu1' : (wI (wI (wI u 6 k 1) 6 k 2) 6 k 0).1 = σ2.1 := by
          funext a j
          by_cases e : a = 6 ∧ j = k
          · obtain ⟨rfl, rfl⟩ := e
            rw [wIe, h0]
          · rw [wIk e, wIk e, wIk e, hu1]
        have hu2' : (wI (wI (wI u 6 k 1) 6 k 2) 6 k 0).2.2 = σ2.2.2 := hu2
        rw [hu1]
        rw [gr_cong (g := fun j => od (σ2.1 5 j).toInt64 (σ2.1 4) (σ2.1 6) (nI j) t * (sh (σ2.1 4) k (nI j) (if (1 : Int32) = 0 then 2 else 1)).toInt64) (f := fun j => od (σ1.1 35 j).toInt64 (σ2.1 4) (σ2.1 6) (nI j) t * (sh (σ2.1 4) k (nI j) (if (1 : Int32) = 0 then 2 else 1)).toInt64) 16 (fun j hj => by rw [show σ1.1 35 j = σ2.1 5 j from (hsw j hj).1])]
        rw [gr_cong (g := fun j => od (σ2.1 5 j).toInt64 (σ2.1 4) (σ2.1 6) (nI j) t * (sh (σ2.1 4) k (nI j) (if (0 : Int32) = 0 then 2 else 1)).toInt64) (f := fun j => od (σ1.1 35 j).toInt64 (σ2.1 4) (σ2.1 6) (nI j) t * (sh (σ2.1 4) k (nI j) (if (0 : Int32) = 0 then 2 else 1)).toInt64) 16 (fun j hj => by rw [show σ1.1 35 j = σ2.1 5 j from (hsw j hj).1])]
        rw [if_neg (show ¬ (1 : Int32) = 0 by decide), if_pos (show (0 : Int32) = 0 from rfl)]
        generalize gr (fun j => od (σ2.1 5 j).toInt64 (σ2.1 4) (σ2.1 6) (nI j) t * (sh (σ2.1 4) k (nI j) 1).toInt64) 16 + gr (fun j => od (σ2.1 5 j).toInt64 (σ2.1 4) (σ2.1 6) (nI j) t * (sh (σ2.1 4) k (nI j) 2).toInt64) 16 = x
        have take := nx (nI k) x _ (Or.inr ⟨k, hkt, rfl⟩) hu2' hu1'
        have keep := nx b m _ hb' hu2' hu1'
        have z1 : ¬ (1 : Int32) = 0 := by decide
        simp only [if_neg z1, if_true]
        rcases hb' with rfl | ⟨j, hj, rfl⟩
        · rw [if_pos rfl, if_pos (show (-1 : Int32) < 0 by decide)]
          exact take
        · rw [if_neg (nI_m1 (by omega)), if_neg (nI_pos (by omega))]
          by_cases h2 : m < x
          · rw [if_pos h2, if_pos h2]
            exact take
          · rw [if_neg h2, if_neg h2]
            by_cases h3 : x = m
            · rw [if_pos h3, if_pos h3, gR1 0 8, e03, ob, gR kR, et0, ob, lA 6 kR1 kR1n (show k < 6 by omega) (by decide), ob, ob, gR kR, et0, ob, lA 6 kR1 kR1n (show j < 6 by omega) (by decide), ob, gR2, wrr, wrr, wrr, hu2, w6, ob, mul_nI 4 4 rfl, lA2 4 24 (k := 4 * k) (by omega), ob, ob, mul_nI 4 4 rfl, lA2 4 24 (k := 4 * j) (by omega), ob, hu1', (htk k hkt).1.1, (htk j hj).1.1]
              by_cases h4 : σ2.1 4 (4 * j) ≤ σ2.1 4 (4 * k)
              · rw [if_pos h4, if_pos h4]
                exact keep
              · rw [if_neg h4, if_neg h4]
                exact take
            · rw [if_neg h3, if_neg h3]
              exact keep
      · rw [ifb1 (by rw [b2]; simp [h0]), if_neg h0]
        exact nx b m u hb' hu2 hu1
  unfold fX8_next fX9_next
  obtain ⟨r, u', a, b, c1, c2⟩ := key t 0 6000 (-1) 0 σ2 (by omega) (by omega) (Or.inl rfl) rfl rfl
  rw [nI_0] at a b
  refine ⟨r, σ1, u', a, b, M, M', R, R', S, S', n, c, t, ?_⟩
  unfold pCpl
  rw [c1, c2]
  exact hC
/-! types alike -/
def ab (tk : Nat → Int32) (a b : Int32) (t : Nat) : Nat → Bool
  | 0 => true
  | d + 1 => decide (lkb tk (t - (d + 1)) a = lkb tk (t - (d + 1)) b) && ab tk a b t d
section ALIKE
variable {σ1 σ2 : hM} {R t : Nat} {p q : Int32}
theorem ev_canPart_L {tk : Nat → Int32} (h : tkR σ1 R t tk) : ∀ (d k fuel : Nat), k + d = t → d < fuel → fX7_canPart_L2 kT1 R p q (fun u5 => rtz (0 : Int32) u5) fuel (nI k) σ1 = some (if ab tk p q t d = true then 0 else 1, σ1) := by
  obtain ⟨kR, -, -, -, ⟨k4, l4⟩, ⟨-, -, -, e3⟩, et, ht, hk⟩ := h
  intro d
  induction d with
  | zero =>
    intro k fuel hk' hf
    obtain ⟨f, rfl⟩ : ∃ f, fuel = f + 1 := ⟨fuel - 1, by omega⟩
    have e : k = t := by omega
    subst e
    rw [fX7_canPart_L2, gI kR, ob, et, if_pos (nI_le (Nat.le_refl _) (by omega))]
    rfl
  | succ d ih =>
    intro k fuel hk' hf
    obtain ⟨f, rfl⟩ : ∃ f, fuel = f + 1 := ⟨fuel - 1, by omega⟩
    have e : t - (d + 1) = k := by omega
    rw [fX7_canPart_L2, gI kR, ob, et, if_neg (nI_ge (show k < t by omega) (by omega)), vC kR, ev_beyond kR e3 k4 l4 et ht (show k < t by omega) (hk k (by omega)).2.2.2, ob, vC kR, ev_beyond kR e3 k4 l4 et ht (show k < t by omega) (hk k (by omega)).2.2.2, ob]
    simp only [iflt, nI_1, ab, e]
    by_cases hq : lkb tk k p = lkb tk k q
    · rw [if_pos hq, ih (k + 1) f (by omega) (by omega)]
      simp [hq]
    · rw [if_neg hq]
      simp [hq, rz1]
theorem ev_alike_L {ex : Int32 → hM → Option (Int32 × hM)} (w6 : σ2.2.2 0 6 = some 4) (e5 : σ2.1 0 5 = nI t) (ht : t ≤ 6) : ∀ (d k fuel : Nat) (b : Bool), k + d = t → d < fuel → fX9_alike_L31 kT2 0 p q ex fuel (if b = true then 1 else 0) (nI k) σ2 = ex (if (b && ab (σ2.1 4) p q t d) = true then 1 else 0) σ2 := by
  intro d
  induction d with
  | zero =>
    intro k fuel b hk' hf
    obtain ⟨f, rfl⟩ : ∃ f, fuel = f + 1 := ⟨fuel - 1, by omega⟩
    have e : k = t := by omega
    subst e
    rw [fX9_alike_L31, gI2, ob, e5, if_pos (nI_le (Nat.le_refl _) (by omega))]
    cases b <;> rfl
  | succ d ih =>
    intro k fuel b hk' hf
    obtain ⟨f, rfl⟩ : ∃ f, fuel = f + 1 := ⟨fuel - 1, by omega⟩
    have e : t - (d + 1) = k := by omega
    rw [fX9_alike_L31, gI2, ob, e5, if_neg (nI_ge (show k < t by omega) (by omega))]
    simp only [iflt, nI_1, ab, e]
    have i0 : fX9_alike_L31 kT2 0 p q ex f 0 (nI (k + 1)) σ2 = ex 0 σ2 := ih (k + 1) f false (by omega) (by omega)
    have i1 := ih (k + 1) f true (by omega) (by omega)
    rw [if_pos rfl] at i1
    cases b with
    | false =>
      rw [if_pos (show (if false = true then (1 : Int32) else 0) = 0 from rfl), i0]
      simp
    | true =>
      rw [if_neg (show ¬ (if true = true then (1 : Int32) else 0) = 0 by decide), vC2, ev_lacks w6 (show k < 6 by omega), ob, vC2, ev_lacks w6 (show k < 6 by omega), ob]
      by_cases hq : lkb (σ2.1 4) k p = lkb (σ2.1 4) k q
      · rw [if_pos hq, i1]
        simp [hq]
      · rw [if_neg hq, i0]
        simp [hq]
end ALIKE
theorem s_alike : st_alike Cpl := by
  intro σ1 σ2 hC p1
  obtain ⟨M, M', R, R', S, S', n, c, t, hC⟩ := hC
  have hQ := hC
  obtain ⟨hr, hf2, hT, hm, hc2, ht, hst, hcr, hb, hi0, hi1⟩ := hQ
  have hr0 := hr
  have hf20 := hf2
  obtain ⟨hMe, hR, hS, e01, e02, e03, e04, e05, e322, ⟨o0_0, o0_6, o0_7, o0_8, o0_9, o0_10, o0_12, o0_13, o1_0, o32_0, o32_1, o33_0, o98_0, o94_0, o94_1, o84_0, o84_1, o49_0, o49_1, o50_0, o51_0, o50_1, o50_2, o67_0, o68_0, o67_1, o67_2, o3_0, o3_1, o6_0, o6_1, o9_0, o9_1, o9_2, o9_3, o14_0, o14_1, o14_2, o14_3⟩, hrow, hodd⟩ := hr0
  obtain ⟨w1, w2, w4, w6, w7, w8, w10, w12, w21, w22, w24, w25, w26, w27, w28, w29, w30, w31, w33, w34, w36, w37, w38⟩ := hf20
  obtain ⟨kM, kM1, kM1n, kM2, kM2n⟩ := kMel hMe
  obtain ⟨kR, ⟨kR1, kR1n⟩, ⟨kR2, kR2n⟩, ⟨kR3, kR3n⟩, ⟨kR4, kR4n⟩⟩ := kTri hR
  obtain ⟨⟨kS, kSn⟩, kSs⟩ := kRow hS
  obtain ⟨em0, em1⟩ := hr.mel
  obtain ⟨et0, et1, et2, et3⟩ := hr.tri
  have erow := hr.row
  obtain ⟨hn40, hn1, hn2, hnk⟩ := id hm
  obtain ⟨ht6, ht1, ht2, htk⟩ := id ht
  obtain ⟨hc12, hc2e⟩ := id hc2
  obtain ⟨hs3, hsw, hsr, hss, hsg, hse, hse0⟩ := id hst
  have hk : tkR σ1 R t (σ2.1 4) := ⟨kR, ⟨kR1, kR1n⟩, ⟨kR2, kR2n⟩, ⟨kR3, kR3n⟩, ⟨kR4, kR4n⟩, ⟨et0, et1, et2, et3⟩, ht1, ht6, fun i hi => (htk i hi).1⟩
  have key : ∀ (d k fuel : Nat) (v : Int32), k + d = 16 → d < fuel → ∃ r : Int32, fX8_alike_L14 kT1 0 p1 (fun x9 u10 => some (x9, u10)) fuel v (nI k) σ1 = some (r, σ1) ∧ fX9_alike_L19 kT2 0 p1 (fun x9 u10 => some (x9, u10)) fuel v (nI k) σ2 = some (r, σ2) := by
    intro d
    induction d with
    | zero =>
      intro k fuel v hk' hf
      obtain ⟨f, rfl⟩ : ∃ f, fuel = f + 1 := ⟨fuel - 1, by omega⟩
      have e : k = 16 := by omega
      subst e
      have h3 : (16 : Int32) ≤ nI 16 := by decide
      rw [fX8_alike_L14, fX9_alike_L19, if_pos h3, if_pos h3]
      exact ⟨_, rfl, rfl⟩
    | succ d ih =>
      intro k fuel v hk' hf
      obtain ⟨f, rfl⟩ : ∃ f, fuel = f + 1 := ⟨fuel - 1, by omega⟩
      have h3 : ¬ (16 : Int32) ≤ nI k := nI_ge (b := 16) (by omega) (by decide)
      have a := ev_canPart_L (p := p1) (q := nI k) hk t 0 6000 (by omega) (by omega)
      have b := ev_alike_L (σ2 := σ2) (t := t) (p := p1) (q := nI k) (ex := fun x9 u10 => lt (fun x11 u12 => lt ((v ||| x11)) fun x13 => lt (nI k + (1 : Int32)) fun x14 => fX9_alike_L19 kT2 0 p1 (fun x9 u10 => some (x9, u10)) f x13 x14 u12) fun J88 => if x9 = 0 then (J88 (0 : Int32) u10) else (J88 ((1 : Int32) <<< (nI k &&& 31)) u10)) w6 ht2 ht6 t 0 6000 true (by omega) (by omega)
      rw [nI_0] at a
      rw [if_pos rfl, nI_0, Bool.true_and] at b
      rw [fX8_alike_L14, fX9_alike_L19, if_neg h3, if_neg h3, b, gR1 0 8, e03, ob, vC kR]
      unfold fX7_canPart
      rw [a, ob]
      simp only [iflt, nI_1]
      cases hab : ab (σ2.1 4) p1 (nI k) t t with
      | true =>
        rw [if_pos rfl, if_pos rfl]
        rw [if_neg (show ¬ (if true = true then (1 : Int32) else 0) = 0 by decide)]
        exact ih (k + 1) f _ (by omega) (by omega)
      | false =>
        have z : ¬ (false = true) := by decide
        rw [if_neg z, if_neg z]
        rw [if_neg (fun q => absurd (show (1 : Int32) = 0 from q) (by decide)), if_pos (show (0 : Int32) = 0 from rfl), Int32.or_zero]
        exact ih (k + 1) f _ (by omega) (by omega)
  unfold fX8_alike fX9_alike
  rw [ev_isType1, in9 0 15 (L := 0) (H := 15) rfl rfl, ob, ob]
  by_cases h : 0 ≤ p1 ∧ p1 ≤ 15
  · rw [ifz1 h, ifz1 h]
    obtain ⟨r, a, b⟩ := key 16 0 6000 0 (by omega) (by omega)
    rw [nI_0] at a b
    exact ⟨r, σ1, σ2, a, b, ⟨M, M', R, R', S, S', n, c, t, hC⟩⟩
  · rw [ifz0 h, ifz0 h]
    exact ⟨_, σ1, σ2, rfl, rfl, ⟨M, M', R, R', S, S', n, c, t, hC⟩⟩
