theorem lt_ite {β : Type} {P : Prop} [Decidable P] {J : Int32 → hM → β} {x y : Int32} {u : hM} : lt J (fun K => if P then K x u else K y u) = J (if P then x else y) u := by
  unfold lt
  split <;> rfl
section KEY3
variable {σ1 σ2 : hM} {m : Nat → Nat}
theorem key_1 {ex : Int32 → Int32 → hM → Option (Int32 × hM)} (hm : ∀ k, k < 25 → m k ≤ 12) (hA : ∀ k, k < 25 → fX8_countAble kT1 0 (nI k - 12) σ1 = some (nI (m k), σ1)) : ∀ (d j fuel : Nat) (x v : Int32), j + d = 25 → d < fuel → ((j = 0 ∧ v = -1) ∨ ∃ b, b < 25 ∧ x = nI b - 12 ∧ v = nI (m b) ∧ kRank b < j ∧ kBest m (fun k => kRank k < j) b) → ∃ b, b < 25 ∧ fX8_key_L19 kT1 0 ex fuel x v (nI j) σ1 = ex (nI b - 12) (nI (m b)) σ1 ∧ kBest m (fun _ => True) b := by
  intro d
  induction d with
  | zero =>
    intro j fuel x v hj hf h
    obtain ⟨f, rfl⟩ : ∃ f, fuel = f + 1 := ⟨fuel - 1, by omega⟩
    have e : j = 25 := by omega
    subst e
    rcases h with ⟨h, -⟩ | ⟨b, hb, rfl, rfl, h1, h2⟩
    · exact absurd h (by decide)
    · refine ⟨b, hb, by rw [fX8_key_L19, if_pos (by decide)], fun k hk _ => h2 k hk ?_⟩
      show kRank k < 25
      unfold kRank
      split <;> omega
  | succ d ih =>
    intro j fuel x v hj hf h
    obtain ⟨f, rfl⟩ : ∃ f, fuel = f + 1 := ⟨fuel - 1, by omega⟩
    obtain ⟨t1, t2, t3⟩ := kTurn_v j (by omega)
    have ha := hA _ t2
    have hml := hm _ t2
    rw [fX8_key_L19, if_neg (show ¬ (24 : Int32) < nI j from nI_nlt (a := 24) (by omega) (by decide))]
    rw [lt_ite, t1]
    simp only [iflt, nI_1]
    rw [vC1 0 8, ha, ob]
    have new : kBest m (fun k => kRank k < j) (kTurn j) → kBest m (fun k => kRank k < j + 1) (kTurn j) := by
      intro q k hk hr
      by_cases e : kRank k = j
      · have : k = kTurn j := by rw [← e, kRank_v k hk]
        subst this
        exact Or.inr ⟨rfl, Nat.le_refl _⟩
      · exact q k hk (show kRank k < j by have : kRank k < j + 1 := hr; omega)
    rcases h with ⟨h0, hv⟩ | ⟨b, hb, hx, hv, h1, h2⟩
    · subst hv
      rw [if_neg (show ¬ nI (m (kTurn j)) ≤ -1 by rw [Int32.le_iff_toInt_le, nI_toInt (by omega), show (-1 : Int32).toInt = -1 from rfl]; omega)]
      exact ih (j + 1) f _ _ (by omega) (by omega) (Or.inr ⟨kTurn j, t2, rfl, rfl, by omega, new (fun k hk hr => absurd hr (show ¬ kRank k < j by omega))⟩)
    · have hmb := hm b hb
      subst hv
      by_cases hle : m (kTurn j) ≤ m b
      · rw [if_pos (show nI (m (kTurn j)) ≤ nI (m b) from nI_le hle (by omega))]
        refine ih (j + 1) f _ _ (by omega) (by omega) (Or.inr ⟨b, hb, hx, rfl, by omega, fun k hk hr => ?_⟩)
        by_cases e : kRank k = j
        · have : k = kTurn j := by rw [← e, kRank_v k hk]
          subst this
          rw [t3]
          omega
        · exact h2 k hk (show kRank k < j by have : kRank k < j + 1 := hr; omega)
      · rw [if_neg (show ¬ nI (m (kTurn j)) ≤ nI (m b) from nI_ge (by omega) (by omega))]
        refine ih (j + 1) f _ _ (by omega) (by omega) (Or.inr ⟨kTurn j, t2, rfl, rfl, by omega, new (fun k hk hr => ?_)⟩)
        have := h2 k hk hr
        omega
theorem key_2 {ex : Int32 → Int32 → hM → Option (Int32 × hM)} (hm : ∀ k, k < 25 → m k ≤ 12) (hA : ∀ k, k < 25 → ∀ ex : Int32 → hM → Option (Int32 × hM), fX9_key_L34 kT2 0 (nI k - 12) ex 6000 0 0 σ2 = ex (nI (m k)) σ2) : ∀ (d j fuel : Nat) (x v : Int32), j + d = 25 → d < fuel → ((j = 0 ∧ v = -1) ∨ ∃ b, b < j ∧ x = nI b - 12 ∧ v = nI (m b) ∧ kBest m (fun k => k < j) b) → ∃ b, b < 25 ∧ fX9_key_L21 kT2 0 ex fuel x v (nI j - 12) σ2 = ex (nI b - 12) (nI (m b)) σ2 ∧ kBest m (fun _ => True) b := by
  intro d
  induction d with
  | zero =>
    intro j fuel x v hj hf h
    obtain ⟨f, rfl⟩ : ∃ f, fuel = f + 1 := ⟨fuel - 1, by omega⟩
    have e : j = 25 := by omega
    subst e
    rcases h with ⟨h, -⟩ | ⟨b, hb, rfl, rfl, h2⟩
    · exact absurd h (by decide)
    · exact ⟨b, hb, by rw [fX9_key_L21, if_pos (by decide)], fun k hk _ => h2 k hk hk⟩
  | succ d ih =>
    intro j fuel x v hj hf h
    obtain ⟨f, rfl⟩ : ∃ f, fuel = f + 1 := ⟨fuel - 1, by omega⟩
    obtain ⟨-, z2, z3, -⟩ := kSize_v j (by omega)
    have hml := hm j (by omega)
    rw [fX9_key_L21, if_neg z3, hA j (by omega)]
    simp only [iflt, z2, if_true, if_neg (show ¬ (1 : Int32) = 0 by decide)]
    rcases h with ⟨h0, hv⟩ | ⟨b, hb, hx, hv, h2⟩
    · subst hv
      rw [if_pos (show (-1 : Int32) < nI (m j) by rw [Int32.lt_iff_toInt_lt, nI_toInt (by omega), show (-1 : Int32).toInt = -1 from rfl]; omega)]
      refine ih (j + 1) f _ _ (by omega) (by omega) (Or.inr ⟨j, by omega, rfl, rfl, fun k hk hr => ?_⟩)
      have : k = j := by have : k < j + 1 := hr; omega
      subst this
      exact Or.inr ⟨rfl, Nat.le_refl _⟩
    · have hmb := hm b (by omega)
      subst hv
      subst hx
      have rk : kSize b ≤ kSize j ↔ kRank b ≤ kRank j := by
        unfold kSize kRank
        split <;> split <;> omega
      by_cases hlt : m b < m j
      · rw [if_pos (show nI (m b) < nI (m j) from nI_lt hlt (by omega))]
        refine ih (j + 1) f _ _ (by omega) (by omega) (Or.inr ⟨j, by omega, rfl, rfl, fun k hk hr => ?_⟩)
        by_cases e : k = j
        · subst e; exact Or.inr ⟨rfl, Nat.le_refl _⟩
        · have := h2 k hk (show k < j by have : k < j + 1 := hr; omega)
          omega
      · rw [if_neg (show ¬ nI (m b) < nI (m j) from nI_nlt (by omega) (by omega))]
        by_cases he : m j = m b
        · rw [if_pos (show nI (m j) = nI (m b) by rw [he]), ev_size (by omega), ob, ev_size (by omega), ob]
          have s1 : kSize b < 25 := by unfold kSize; split <;> omega
          have s2 : kSize j < 25 := by unfold kSize; split <;> omega
          by_cases hs : kSize b ≤ kSize j
          · rw [if_pos (show nI (kSize b) ≤ nI (kSize j) from nI_le hs (by omega))]
            refine ih (j + 1) f _ _ (by omega) (by omega) (Or.inr ⟨b, by omega, rfl, rfl, fun k hk hr => ?_⟩)
            by_cases e : k = j
            · subst e; exact Or.inr ⟨he, rk.mp hs⟩
            · exact h2 k hk (show k < j by have : k < j + 1 := hr; omega)
          · rw [if_neg (show ¬ nI (kSize b) ≤ nI (kSize j) from nI_ge (by omega) (by omega))]
            refine ih (j + 1) f _ _ (by omega) (by omega) (Or.inr ⟨j, by omega, rfl, rfl, fun k hk hr => ?_⟩)
            by_cases e : k = j
            · subst e; exact Or.inr ⟨rfl, Nat.le_refl _⟩
            · have := h2 k hk (show k < j by have : k < j + 1 := hr; omega)
              have := mt rk.mpr hs
              omega
        · rw [if_neg (show ¬ nI (m j) = nI (m b) from neI (by omega) (by omega) he)]
          refine ih (j + 1) f _ _ (by omega) (by omega) (Or.inr ⟨b, by omega, rfl, rfl, fun k hk hr => ?_⟩)
          by_cases e : k = j
          · subst e; omega
          · exact h2 k hk (show k < j by have : k < j + 1 := hr; omega)
end KEY3
theorem s_key : st_key Cpl := by
  intro σ1 σ2 hC p1
  obtain ⟨M, M', R, R', S, S', n, c, t, hC⟩ := hC
  have hQ := hC
  obtain ⟨hr, hf2, hT, hm, hc2, ht, hst, hcr, hb, hi0, hi1⟩ := hQ
  have hr0 := hr
  have hf20 := hf2
  obtain ⟨hMe, hR, hS, e01, e02, e03, e04, e05, e322, ⟨o0_0, o0_6, o0_7, o0_8, o0_9, o0_10, o0_12, o0_13, o1_0, o32_0, o32_1, o33_0, o98_0, o94_0, o94_1, o84_0, o84_1, o49_0, o49_1, o50_0, o51_0, o50_1, o50_2, o67_0, o68_0, o67_1, o67_2, o3_0, o3_1, o6_0, o6_1, o9_0, o9_1, o9_2, o9_3, o14_0, o14_1, o14_2, o14_3⟩, hrow, hodd⟩ := hr0
  obtain ⟨w1, w2, w4, w6, w7, w8, w10, w12, w21, w22, w24, w25, w26, w27, w28, w29, w30, w31, w33, w34, w36, w37, w38⟩ := hf20
  obtain ⟨kM, kM1, kM1n, kM2, kM2n⟩ := kMel hMe
  obtain ⟨kR, ⟨kR1, kR1n⟩, ⟨kR2, kR2n⟩, ⟨kR3, kR3n⟩, ⟨kR4, kR4n⟩⟩ := kTri hR
  obtain ⟨⟨kS, kSn⟩, kSs⟩ := kRow hS
  obtain ⟨em0, em1⟩ := hr.mel
  obtain ⟨et0, et1, et2, et3⟩ := hr.tri
  have erow := hr.row
  obtain ⟨hn40, hn1, hn2, hnk⟩ := id hm
  obtain ⟨ht6, ht1, ht2, htk⟩ := id ht
  obtain ⟨hc12, hc2e⟩ := id hc2
  obtain ⟨hs3, hsw, hsr, hss, hsg, hse, hse0⟩ := id hst
  unfold fX8_key fX9_key
  rw [isW, in9 0 1 (L := 0) (H := 1) rfl rfl, ob, ob]
  by_cases h : 0 ≤ p1 ∧ p1 ≤ 1
  · rw [ifz1 h, ifz1 h]
    have hm' : ∀ k, k < 25 → kMany (fun s j => σ2.1 3 (8 * s + j)) (σ2.1 1) n (nI k - 12) c ≤ 12 := fun k _ => Nat.le_trans (kMany_le _ _ _ _ c) hc12
    obtain ⟨b1, hb1, q1, g1⟩ := key_1 (σ1 := σ1) (m := fun k => kMany (fun s j => σ2.1 3 (8 * s + j)) (σ2.1 1) n (nI k - 12) c) (ex := fun x9 x10 u11 => if p1 = 0 then (some (x9, u11)) else (some (x10, u11))) hm' (fun k hk => by
      have L := ev_able_L (σ1 := σ1) (σ2 := σ2) (b := nI k - 12) (ex := fun x16 u17 => some (x16, u17)) o0_6 e322 e01 kS kSn erow kSs kM em0 kM1 kM1n hn1 hn40 hs3 hc12 hss (fun k hk => ⟨(hnk k hk).1, (hnk k hk).2.2.1⟩) (kSize_v k hk).2.2.2 c 0 6000 (by omega) (by omega)
      rw [nI_0] at L
      exact L) 25 0 6000 0 (-1) (by omega) (by omega) (Or.inl ⟨rfl, rfl⟩)
    obtain ⟨b2, hb2, q2, g2⟩ := key_2 (σ2 := σ2) (m := fun k => kMany (fun s j => σ2.1 3 (8 * s + j)) (σ2.1 1) n (nI k - 12) c) (ex := fun x18 x19 u20 => if p1 = 0 then (some (x18, u20)) else (some (x19, u20))) hm' (fun k hk ex => by
      have L := key_L34 (σ2 := σ2) (b := nI k - 12) (ex := ex) w1 w4 hn2 hn40 hc2e hc12 (fun s hs => (hss s hs).2) c 0 6000 (by omega) (by omega)
      rw [nI_0] at L
      exact L) 25 0 6000 0 (-1) (by omega) (by omega) (Or.inl ⟨rfl, rfl⟩)
    have e := kBest_one hb1 hb2 g1 g2
    subst e
    rw [nI_0] at q1
    rw [show nI 0 - 12 = (-12 : Int32) by decide] at q2
    rw [q1, q2]
    by_cases hp : p1 = 0
    · rw [if_pos hp, if_pos hp]
      exact ⟨_, σ1, σ2, rfl, rfl, ⟨M, M', R, R', S, S', n, c, t, hC⟩⟩
    · rw [if_neg hp, if_neg hp]
      exact ⟨_, σ1, σ2, rfl, rfl, ⟨M, M', R, R', S, S', n, c, t, hC⟩⟩
  · rw [ifz0 h, ifz0 h]
    exact ⟨_, σ1, σ2, rfl, rfl, ⟨M, M', R, R', S, S', n, c, t, hC⟩⟩
