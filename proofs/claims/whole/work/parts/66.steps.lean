theorem ev_forget_L {ex : hM → Option (Int32 × hM)} : ∀ (d k fuel : Nat) (σ : hM), k + d = 6 → d < fuel → σ.2.2 0 8 = some 6 → ∃ σ' : hM, fX9_forget_L7 kT2 0 ex fuel (nI k) σ = ex σ' ∧ σ'.2.2 = σ.2.2 ∧ (∀ a, a ≠ 6 → σ'.1 a = σ.1 a) ∧ (∀ j, k ≤ j → j < 6 → σ'.1 6 j = 0) ∧ ∀ j, j < k → σ'.1 6 j = σ.1 6 j := by
  intro d
  induction d with
  | zero =>
    intro k fuel σ hk hf h8
    obtain ⟨f, rfl⟩ : ∃ f, fuel = f + 1 := ⟨fuel - 1, by omega⟩
    have e : k = 6 := by omega
    subst e
    rw [fX9_forget_L7]
    rw [if_pos (show (6 : Int32) ≤ nI 6 by decide)]
    exact ⟨σ, rfl, rfl, fun a _ => rfl, fun j h1 h2 => absurd h1 (by omega), fun j _ => rfl⟩
  | succ d ih =>
    intro k fuel σ hk hf h8
    obtain ⟨f, rfl⟩ : ∃ f, fuel = f + 1 := ⟨fuel - 1, by omega⟩
    rw [fX9_forget_L7]
    rw [if_neg (show ¬ (6 : Int32) ≤ nI k from nI_ge (b := 6) (by omega) (by decide))]
    have hk6 : k < 6 := by omega
    simp (disch := first | with_reducible assumption | (unfold kd; decide) | (unfold kl; decide) | decide | (apply t_lt; omega)) only [gR, ob, h8, sA 6, iflt, nI_1]
    obtain ⟨σ', h1, h2, h3, h4, h5⟩ := ih (k + 1) f (wI σ 6 k 0) (by omega) (by omega) h8
    refine ⟨σ', h1, h2, fun a ha => (h3 a ha).trans (wIn ha), fun j hj hj6 => ?_, fun j hj => ?_⟩
    · by_cases e : j = k
      · subst e
        rw [h5 j (by omega), wIe]
      · exact h4 j (by omega) hj6
    · rw [h5 j (by omega), wIk (by omega)]
theorem ev_forget2 {σ : hM} {x : Int32} (h8 : σ.2.2 0 8 = some 6) (q : fX9_doneMany kT2 0 σ = some (x, σ)) : ∃ σ' : hM, fX9_forget kT2 0 σ = some (x, σ') ∧ σ'.2.2 = σ.2.2 ∧ (∀ a, a ≠ 6 → σ'.1 a = σ.1 a) ∧ (∀ j, j < 6 → σ'.1 6 j = 0) := by
  obtain ⟨σ', h1, h2, h3, h4, -⟩ := ev_forget_L (ex := fun u5 => some (x, u5)) 6 0 6000 σ (by omega) (by omega) h8
  refine ⟨σ', ?_, h2, h3, fun j hj => h4 j (Nat.zero_le j) hj⟩
  unfold fX9_forget
  rw [vC2, q, ob]
  rw [nI_0] at h1
  exact h1
theorem s_forget : st_forget Cpl := by
  intro σ1 σ2 hC
  obtain ⟨M, M', R, R', S, S', n, c, t, hC⟩ := hC
  have hQ := hC
  obtain ⟨hr, hf2, hT, hm, hc2, ht, hst, hcr, hb, hi0, hi1⟩ := hQ
  have hr0 := hr
  have hf20 := hf2
  obtain ⟨hMe, hR, hS, e01, e02, e03, e04, e05, e322, ⟨o0_0, o0_6, o0_7, o0_8, o0_9, o0_10, o0_12, o0_13, o1_0, o32_0, o32_1, o33_0, o98_0, o94_0, o94_1, o84_0, o84_1, o49_0, o49_1, o50_0, o51_0, o50_1, o50_2, o67_0, o68_0, o67_1, o67_2, o3_0, o3_1, o6_0, o6_1, o9_0, o9_1, o9_2, o9_3, o14_0, o14_1, o14_2, o14_3⟩, hrow, hodd⟩ := hr0
  obtain ⟨w1, w2, w4, w6, w7, w8, w10, w12, w21, w22, w24, w25, w26, w27, w28, w29, w30, w31, w33, w34, w36, w37, w38⟩ := hf20
  obtain ⟨kM, kM1, kM1n, kM2, kM2n⟩ := kMel hMe
  obtain ⟨kR, ⟨kR1, kR1n⟩, ⟨kR2, kR2n⟩, ⟨kR3, kR3n⟩, ⟨kR4, kR4n⟩⟩ := kTri hR
  obtain ⟨⟨kS, kSn⟩, kSs⟩ := kRow hS
  obtain ⟨em0, em1⟩ := hr.mel
  obtain ⟨et0, et1, et2, et3⟩ := hr.tri
  have erow := hr.row
  obtain ⟨hn40, hn1, hn2, hnk⟩ := id hm
  obtain ⟨ht6, ht1, ht2, htk⟩ := id ht
  obtain ⟨hc12, hc2e⟩ := id hc2
  obtain ⟨hs3, hsw, hsr, hss, hsg, hse, hse0⟩ := id hst
  obtain ⟨N, P, hN, hP, eN, eP, hNP⟩ := id hsr
  have q := ev_doneMany ht2 ht6 w8
  rw [dm_bc (N := N) ht6 (fun j hj => ⟨(hNP j hj).1, (hNP j hj).2.1, (hNP j hj).2.2.2⟩)] at q
  obtain ⟨σ', h1, h2, h3, h4⟩ := ev_forget2 w8 q
  refine ⟨nI (bc N), wI (wI σ1 32 4 0) 32 5 0, σ', ?_, h1, M, M', R, R', S, S', n, c, t, hC.res rfl h2 (fun a ha => (wIn ha).trans (wIn ha)) (fun k h4 h5 => (wIk (fun q => h5 q.2)).trans (wIk (fun q => h4 q.2))) h3 ⟨0, 0, by decide, by decide, by rw [wIk (by omega)]; exact wIe, wIe, fun j hj => ?_⟩⟩
  · unfold fX8_forget fX8_dropResults
    simp (disch := first | with_reducible assumption | (unfold kd; decide) | (unfold kl; decide) | decide | (apply t_lt; omega)) only [gR, gI, pI, ob, vC, wrr, o0_6, eN, ev_bitCount hN]
  · rw [h4 j hj, Nat.zero_testBit]
    exact ⟨Or.inl rfl, by decide, by decide, fun _ => rfl⟩
theorem round_L {c3 p4 : Int32} {σ1 σ2 : hM} {m : Nat} (hm : m ≤ 99) (hc : c3 = nI m) : ∀ (d k fuel : Nat) (x y : Int32), k + d = m → d < fuel → ∃ r : Int32, fX8_round_L46 kT1 c3 (fun (x9 : Int32) (x10 : Int32) (u11 : hM) => if p4 = 0 then (some (x9, u11)) else (some (x10, u11))) fuel x y (nI k) σ1 = some (r, σ1) ∧ fX9_round_L49 kT2 c3 (fun (x9 : Int32) (x10 : Int32) (u11 : hM) => if p4 = 0 then (some (x9, u11)) else (some (x10, u11))) fuel x y (nI k) σ2 = some (r, σ2) := by
  subst hc
  intro d
  induction d with
  | zero =>
    intro k fuel x y hk hf
    obtain ⟨f, rfl⟩ : ∃ f, fuel = f + 1 := ⟨fuel - 1, by omega⟩
    have e : k = m := by omega
    subst e
    rw [fX8_round_L46, fX9_round_L49, if_pos (nI_le (Nat.le_refl k) (show k < 2 ^ 31 by omega)), if_pos (nI_le (Nat.le_refl k) (show k < 2 ^ 31 by omega))]
    refine ⟨if p4 = 0 then x else y, ?_, ?_⟩ <;> split <;> rfl
  | succ d ih =>
    intro k fuel x y hk hf
    obtain ⟨f, rfl⟩ : ∃ f, fuel = f + 1 := ⟨fuel - 1, by omega⟩
    rw [fX8_round_L46, fX9_round_L49, if_neg (nI_ge (show k < m by omega) (show m < 2 ^ 31 by omega)), if_neg (nI_ge (show k < m by omega) (show m < 2 ^ 31 by omega))]
    simp only [iflt, nI_1]
    exact ih (k + 1) f _ _ (by omega) (by omega)
theorem s_round : st_round Cpl := by
  intro σ1 σ2 hC p1 p2 p3 p4
  unfold fX8_round fX9_round
  simp only [ev_isHome1, ev_isHome2, ob]
  by_cases h1 : -1200 ≤ p1 ∧ p1 ≤ 1200
  · simp only [ifz1 h1]
    by_cases h2 : -1200 ≤ p2 ∧ p2 ≤ 1200
    · simp only [ifz1 h2, isW, in9 0 99 (L := 0) (H := 99) rfl rfl, ob]
      by_cases h3 : 0 ≤ p3 ∧ p3 ≤ 99
      · simp only [ifz1 h3, isW, in9 0 1 (L := 0) (H := 1) rfl rfl, ob]
        by_cases h4 : 0 ≤ p4 ∧ p4 ≤ 1
        · simp only [ifz1 h4]
          obtain ⟨m, hm, e⟩ := (inK 99 rfl (by decide)).mp h3
          obtain ⟨r, a, b⟩ := round_L (p4 := p4) (σ1 := σ1) (σ2 := σ2) (m := m) (by omega) e m 0 6000 p1 p2 (by omega) (by omega)
          rw [nI_0] at a b
          exact ⟨r, σ1, σ2, a, b, hC⟩
        · simp only [ifz0 h4]
          exact ⟨_, σ1, σ2, rfl, rfl, hC⟩
      · simp only [ifz0 h3]
        exact ⟨_, σ1, σ2, rfl, rfl, hC⟩
    · simp only [ifz0 h2]
      exact ⟨_, σ1, σ2, rfl, rfl, hC⟩
  · simp only [ifz0 h1]
    exact ⟨_, σ1, σ2, rfl, rfl, hC⟩
/-- the least p with 2^p at least x -/
theorem fig_L {x : Int32} {q : Nat} (hq : q < 30) (h1 : ∀ p, p < q → ¬ x ≤ nI (2 ^ p)) (h2 : x ≤ nI (2 ^ q)) {ex2 : Int32 → hM → Option (Int32 × hM)} {σ2 : hM} : ∀ (d k fuel : Nat), k + d = q → d < fuel → fX9_figures_L2 kT2 x ex2 fuel (nI k) σ2 = ex2 (nI q) σ2 := by
  intro d
  induction d with
  | zero =>
    intro k fuel hk hf
    obtain ⟨f, rfl⟩ : ∃ f, fuel = f + 1 := ⟨fuel - 1, by omega⟩
    have e : k = q := by omega
    subst e
    rw [fX9_figures_L2, shl31 k (by omega), if_pos h2]
  | succ d ih =>
    intro k fuel hk hf
    obtain ⟨f, rfl⟩ : ∃ f, fuel = f + 1 := ⟨fuel - 1, by omega⟩
    rw [fX9_figures_L2, shl31 k (by omega), if_neg (h1 k (by omega))]
    simp only [iflt, nI_1]
    exact ih (k + 1) f (by omega) (by omega)
theorem i_nlt {x y : Int32} (h : x ≤ y) : ¬ y < x := by rw [Int32.le_iff_toInt_le] at h; rw [Int32.lt_iff_toInt_lt]; omega
theorem i_lt {x y : Int32} (h : ¬ x ≤ y) : y < x := by rw [Int32.le_iff_toInt_le] at h; rw [Int32.lt_iff_toInt_lt]; omega
theorem pairs_L {x : Int32} {q : Nat} (hq : q < 30) (h1 : ∀ p, p < q → ¬ x ≤ nI (2 ^ p)) (h2 : x ≤ nI (2 ^ q)) {ex : hM → Option (Int32 × hM)} {σ1 : hM} : ∀ (d k fuel : Nat), k + d = q → d < fuel → fX8_pairs_L23 kT1 x ex fuel (nI k) σ1 = some (nI q, σ1) := by
  intro d
  induction d with
  | zero =>
    intro k fuel hk hf
    obtain ⟨f, rfl⟩ : ∃ f, fuel = f + 1 := ⟨fuel - 1, by omega⟩
    have e : k = q := by omega
    subst e
    rw [fX8_pairs_L23, if_neg (show ¬ (30 : Int32) ≤ nI k from nI_ge (b := 30) hq (by decide)), shl31 k (by omega), if_neg (i_nlt h2)]
  | succ d ih =>
    intro k fuel hk hf
    obtain ⟨f, rfl⟩ : ∃ f, fuel = f + 1 := ⟨fuel - 1, by omega⟩
    rw [fX8_pairs_L23, if_neg (show ¬ (30 : Int32) ≤ nI k from nI_ge (b := 30) (by omega) (by decide)), shl31 k (by omega), if_pos (i_lt (h1 k (by omega)))]
    simp only [iflt, nI_1]
    exact ih (k + 1) f (by omega) (by omega)
def lg2 (m : Nat) : Nat := if m ≤ 1 then 0 else if m ≤ 2 then 1 else if m ≤ 4 then 2 else if m ≤ 8 then 3 else if m ≤ 16 then 4 else if m ≤ 32 then 5 else if m ≤ 64 then 6 else 7
theorem lg2_ok : ∀ m, m < 121 → lg2 m < 30 ∧ (∀ p, p < lg2 m → ¬ nI m ≤ nI (2 ^ p)) ∧ nI m ≤ nI (2 ^ lg2 m) := by decide +kernel
theorem pairs_v : ∀ k, k < 17 → 2 ≤ k → nI k * (nI k - 1) / 2 = nI (k * (k - 1) / 2) ∧ k * (k - 1) / 2 < 121 := by decide +kernel
theorem inAB {p : Int32} (a b : Nat) {lo hi : Int32} (h1 : lo = nI a) (h2 : hi = nI b) (hb : b < 1000000) (ha : a < 1000000) : (lo ≤ p ∧ p ≤ hi) ↔ ∃ k, a ≤ k ∧ k ≤ b ∧ p = nI k := by
  subst h1
  subst h2
  constructor
  · intro ⟨q1, q2⟩
    rw [Int32.le_iff_toInt_le, nI_toInt (by omega)] at q1 q2
    obtain ⟨j, hj, e⟩ := nI_of (x := p) (by rw [Int32.lt_iff_toInt_lt, Int32.toInt_zero]; omega)
    rw [e, nI_toInt hj] at q1 q2
    exact ⟨j, by omega, by omega, e⟩
  · intro ⟨k, q1, q2, e⟩
    rw [e]
    exact ⟨nI_le q1 (by omega), nI_le q2 (by omega)⟩
theorem s_pairs : st_pairs Cpl := by
  intro σ1 σ2 hC p1
  unfold fX8_pairs fX9_pairs fX9_figures
  simp only [isW, in9 2 16 (L := 2) (H := 16) rfl rfl, ob]
  by_cases h : 2 ≤ p1 ∧ p1 ≤ 16
  · simp only [ifz1 h, iflt]
    obtain ⟨k, h2, h16, rfl⟩ := (inAB 2 16 rfl rfl (by decide) (by decide)).mp h
    obtain ⟨e, el⟩ := pairs_v k (by omega) h2
    obtain ⟨l1, l2, l3⟩ := lg2_ok _ el
    have a := pairs_L l1 l2 l3 (ex := fun u4 => some (-1, u4)) (σ1 := σ1) (lg2 (k * (k - 1) / 2)) 0 6000 (by omega) (by omega)
    have b := fig_L l1 l2 l3 (ex2 := fun x2 u3 => some (x2, u3)) (σ2 := σ2) (lg2 (k * (k - 1) / 2)) 0 6000 (by omega) (by omega)
    rw [nI_0] at a b
    rw [e, a, b]
    exact ⟨_, σ1, σ2, rfl, rfl, hC⟩
  · simp only [ifz0 h]
    exact ⟨_, σ1, σ2, rfl, rfl, hC⟩
