/-! THE STEPS OF THE CALLS: those that have no loop -/
theorem ifz1 {α : Type} {P : Prop} [Decidable P] {x y : α} (h : P) : (if (if P then (1 : Int32) else 0) = 0 then x else y) = y := by rw [if_pos h]; rfl
theorem ifz0 {α : Type} {P : Prop} [Decidable P] {x y : α} (h : ¬ P) : (if (if P then (1 : Int32) else 0) = 0 then x else y) = x := by rw [if_neg h]; rfl
theorem s_fault : st_fault Cpl := by
  intro σ1 σ2 hC
  obtain ⟨M, M', R, R', S, S', n, c, t, hC⟩ := hC
  have hQ := hC
  obtain ⟨hr, hf2, hT, hm, hc2, ht, hst, hcr, hb, hi0, hi1⟩ := hQ
  have hr0 := hr
  have hf20 := hf2
  obtain ⟨hMe, hR, hS, e01, e02, e03, e04, e05, e322, ⟨o0_0, o0_6, o0_7, o0_8, o0_9, o0_10, o0_12, o0_13, o1_0, o32_0, o32_1, o33_0, o98_0, o94_0, o94_1, o84_0, o84_1, o49_0, o49_1, o50_0, o51_0, o50_1, o50_2, o67_0, o68_0, o67_1, o67_2, o3_0, o3_1, o6_0, o6_1, o9_0, o9_1, o9_2, o9_3, o14_0, o14_1, o14_2, o14_3⟩, hrow, hodd⟩ := hr0
  obtain ⟨w1, w2, w4, w6, w7, w8, w10, w12, w21, w22, w24, w25, w26, w27, w28, w29, w30, w31, w33, w34, w36, w37, w38⟩ := hf20
  obtain ⟨kM, kM1, kM1n, kM2, kM2n⟩ := kMel hMe
  obtain ⟨kR, ⟨kR1, kR1n⟩, ⟨kR2, kR2n⟩, ⟨kR3, kR3n⟩, ⟨kR4, kR4n⟩⟩ := kTri hR
  obtain ⟨⟨kS, kSn⟩, kSs⟩ := kRow hS
  obtain ⟨em0, em1⟩ := hr.mel
  obtain ⟨et0, et1, et2, et3⟩ := hr.tri
  have erow := hr.row
  obtain ⟨hn40, hn1, hn2, hnk⟩ := id hm
  obtain ⟨ht6, ht1, ht2, htk⟩ := id ht
  obtain ⟨hc12, hc2e⟩ := id hc2
  obtain ⟨hs3, hsw, hsr, hss, hsg, hse, hse0⟩ := id hst
  obtain ⟨w, hw, hw1, hw2, hwk, hfa⟩ := id hT
  refine ⟨σ1.1 1 5, σ1, σ2, ?_, ?_, ⟨M, M', R, R', S, S', n, c, t, hC⟩⟩
  · unfold fX8_fault
    simp (disch := first | with_reducible assumption | (unfold kd; decide) | (unfold kl; decide) | decide | (apply t_lt; omega)) only [gR, gI, ob, o0_0]
  · unfold fX9_fault
    simp (disch := first | with_reducible assumption | (unfold kd; decide) | (unfold kl; decide) | decide | (apply t_lt; omega)) only [gR, gI, ob, hfa]
theorem s_note : st_note Cpl := by
  intro σ1 σ2 hC p1 p2
  obtain ⟨M, M', R, R', S, S', n, c, t, hC⟩ := hC
  have hQ := hC
  obtain ⟨hr, hf2, hT, hm, hc2, ht, hst, hcr, hb, hi0, hi1⟩ := hQ
  have hr0 := hr
  have hf20 := hf2
  obtain ⟨hMe, hR, hS, e01, e02, e03, e04, e05, e322, ⟨o0_0, o0_6, o0_7, o0_8, o0_9, o0_10, o0_12, o0_13, o1_0, o32_0, o32_1, o33_0, o98_0, o94_0, o94_1, o84_0, o84_1, o49_0, o49_1, o50_0, o51_0, o50_1, o50_2, o67_0, o68_0, o67_1, o67_2, o3_0, o3_1, o6_0, o6_1, o9_0, o9_1, o9_2, o9_3, o14_0, o14_1, o14_2, o14_3⟩, hrow, hodd⟩ := hr0
  obtain ⟨w1, w2, w4, w6, w7, w8, w10, w12, w21, w22, w24, w25, w26, w27, w28, w29, w30, w31, w33, w34, w36, w37, w38⟩ := hf20
  obtain ⟨kM, kM1, kM1n, kM2, kM2n⟩ := kMel hMe
  obtain ⟨kR, ⟨kR1, kR1n⟩, ⟨kR2, kR2n⟩, ⟨kR3, kR3n⟩, ⟨kR4, kR4n⟩⟩ := kTri hR
  obtain ⟨⟨kS, kSn⟩, kSs⟩ := kRow hS
  obtain ⟨em0, em1⟩ := hr.mel
  obtain ⟨et0, et1, et2, et3⟩ := hr.tri
  have erow := hr.row
  obtain ⟨hn40, hn1, hn2, hnk⟩ := id hm
  obtain ⟨ht6, ht1, ht2, htk⟩ := id ht
  obtain ⟨hc12, hc2e⟩ := id hc2
  obtain ⟨hs3, hsw, hsr, hss, hsg, hse, hse0⟩ := id hst
  by_cases h : 0 ≤ p1 ∧ p1 ≤ nI n - 1
  · obtain ⟨k, hk, rfl⟩ := (inN (by omega)).mp h
    obtain ⟨d1, d2, -, d4⟩ := hnk k hk
    unfold fX8_note fX9_note
    simp (disch := first | with_reducible assumption | (unfold kd; decide) | (unfold kl; decide) | decide | (apply t_lt; omega)) only [gR, gI, ob, vC, e01, e02, e03, e04, e05, e322, em0, em1, et0, et1, et2, et3, o0_0, o0_6, o0_7, o0_8, o0_9, o0_10, o0_12, o0_13, o1_0, o32_0, o32_1, o33_0, o98_0, o94_0, o94_1, o84_0, o84_1, o49_0, o49_1, o50_0, o51_0, o50_1, o50_2, o67_0, o68_0, o67_1, o67_2, o3_0, o3_1, o6_0, o6_1, o9_0, o9_1, o9_2, o9_3, o14_0, o14_1, o14_2, o14_3, w1, w2, w4, w6, w7, w8, w10, w12, w21, w22, w24, w25, w26, w27, w28, w29, w30, w31, w33, w34, w36, w37, w38, hn1, hn2, isW, ev_isNote2 hn2, ifz1 h, lA 40, d1, d2]
    by_cases h0 : p2 = 0
    · subst h0
      exact ⟨_, σ1, σ2, rfl, rfl, ⟨M, M', R, R', S, S', n, c, t, hC⟩⟩
    · rw [if_neg h0, if_neg h0]
      by_cases h1 : p2 = 1
      · subst h1
        refine ⟨_, σ1, σ2, rfl, ?_, ⟨M, M', R, R', S, S', n, c, t, hC⟩⟩
        rcases d4 with d4 | d4 <;> rw [d4] <;> rfl
      · rw [if_neg h1, if_neg h1]
        exact ⟨_, σ1, σ2, rfl, rfl, ⟨M, M', R, R', S, S', n, c, t, hC⟩⟩
  · unfold fX8_note fX9_note
    simp (disch := first | with_reducible assumption | (unfold kd; decide) | (unfold kl; decide) | decide | (apply t_lt; omega)) only [gR, gI, ob, vC, e01, e02, e03, e04, e05, e322, em0, em1, et0, et1, et2, et3, o0_0, o0_6, o0_7, o0_8, o0_9, o0_10, o0_12, o0_13, o1_0, o32_0, o32_1, o33_0, o98_0, o94_0, o94_1, o84_0, o84_1, o49_0, o49_1, o50_0, o51_0, o50_1, o50_2, o67_0, o68_0, o67_1, o67_2, o3_0, o3_1, o6_0, o6_1, o9_0, o9_1, o9_2, o9_3, o14_0, o14_1, o14_2, o14_3, w1, w2, w4, w6, w7, w8, w10, w12, w21, w22, w24, w25, w26, w27, w28, w29, w30, w31, w33, w34, w36, w37, w38, hn1, hn2, isW, ev_isNote2 hn2, ifz0 h]
    exact ⟨_, σ1, σ2, rfl, rfl, ⟨M, M', R, R', S, S', n, c, t, hC⟩⟩
theorem mul_nI (a : Int32) (m : Nat) (h : a = nI m) (k : Nat) : a * nI k = nI (m * k) := by rw [h, pk_mul]
theorem s_singer : st_singer Cpl := by
  intro σ1 σ2 hC p1 p2
  obtain ⟨M, M', R, R', S, S', n, c, t, hC⟩ := hC
  have hQ := hC
  obtain ⟨hr, hf2, hT, hm, hc2, ht, hst, hcr, hb, hi0, hi1⟩ := hQ
  have hr0 := hr
  have hf20 := hf2
  obtain ⟨hMe, hR, hS, e01, e02, e03, e04, e05, e322, ⟨o0_0, o0_6, o0_7, o0_8, o0_9, o0_10, o0_12, o0_13, o1_0, o32_0, o32_1, o33_0, o98_0, o94_0, o94_1, o84_0, o84_1, o49_0, o49_1, o50_0, o51_0, o50_1, o50_2, o67_0, o68_0, o67_1, o67_2, o3_0, o3_1, o6_0, o6_1, o9_0, o9_1, o9_2, o9_3, o14_0, o14_1, o14_2, o14_3⟩, hrow, hodd⟩ := hr0
  obtain ⟨w1, w2, w4, w6, w7, w8, w10, w12, w21, w22, w24, w25, w26, w27, w28, w29, w30, w31, w33, w34, w36, w37, w38⟩ := hf20
  obtain ⟨kM, kM1, kM1n, kM2, kM2n⟩ := kMel hMe
  obtain ⟨kR, ⟨kR1, kR1n⟩, ⟨kR2, kR2n⟩, ⟨kR3, kR3n⟩, ⟨kR4, kR4n⟩⟩ := kTri hR
  obtain ⟨⟨kS, kSn⟩, kSs⟩ := kRow hS
  obtain ⟨em0, em1⟩ := hr.mel
  obtain ⟨et0, et1, et2, et3⟩ := hr.tri
  have erow := hr.row
  obtain ⟨hn40, hn1, hn2, hnk⟩ := id hm
  obtain ⟨ht6, ht1, ht2, htk⟩ := id ht
  obtain ⟨hc12, hc2e⟩ := id hc2
  obtain ⟨hs3, hsw, hsr, hss, hsg, hse, hse0⟩ := id hst
  by_cases h : 0 ≤ p1 ∧ p1 ≤ nI c - 1
  · obtain ⟨k, hk, rfl⟩ := (inN (by omega)).mp h
    obtain ⟨d1, -⟩ := hss k hk
    have kk := kSs k (by omega)
    unfold fX8_singer fX9_singer
    rw [vC1 0 8, vC2, ev_isSinger1 o0_6 hs3, ev_isSinger2 hc2e, ob, ob, ifz1 h, ifz1 h, gR1 0 8, o0_6, ob, gR1 32 5, e322, ob, lR 12 kS kSn (by omega) (by decide), erow k (by omega), ob, in9 0 7 (L := 0) (H := 7) rfl rfl, ob]
    by_cases h7 : 0 ≤ p2 ∧ p2 ≤ 7
    · obtain ⟨j, hj, rfl⟩ := (inK 7 rfl (by decide)).mp h7
      have e8 : (8 : Int32) * nI k + nI j = nI (8 * k + j) := by rw [mul_nI 8 8 rfl, nI_add]
      rw [ifz1 h7, gR2, w4, ob, e8, lA2 3 96 (k := 8 * k + j) (by omega), ob]
      refine ⟨_, σ1, σ2, ?_, rfl, ⟨M, M', R, R', S, S', n, c, t, hC⟩⟩
      rw [← d1 j hj]
      match j, hj with
      | 0, _ => exact congrArg (fun o : Option Int32 => o.bind fun x => some (x, σ1)) (gI kk)
      | 1, _ => exact congrArg (fun o : Option Int32 => o.bind fun x => some (x, σ1)) (gI kk)
      | 2, _ => exact congrArg (fun o : Option Int32 => o.bind fun x => some (x, σ1)) (gI kk)
      | 3, _ => exact congrArg (fun o : Option Int32 => o.bind fun x => some (x, σ1)) (gI kk)
      | 4, _ => exact congrArg (fun o : Option Int32 => o.bind fun x => some (x, σ1)) (gI kk)
      | 5, _ => exact congrArg (fun o : Option Int32 => o.bind fun x => some (x, σ1)) (gI kk)
      | 6, _ => exact congrArg (fun o : Option Int32 => o.bind fun x => some (x, σ1)) (gI kk)
      | 7, _ => exact congrArg (fun o : Option Int32 => o.bind fun x => some (x, σ1)) (gI kk)
    · rw [ifz0 h7]
      have hq : ∀ j, j < 8 → ¬ p2 = nI j := fun j hj e => h7 ((inK 7 rfl (by decide)).mpr ⟨j, hj, e⟩)
      rw [if_neg (show ¬ p2 = 0 from hq 0 (by decide)), if_neg (show ¬ p2 = 1 from hq 1 (by decide)), if_neg (show ¬ p2 = 2 from hq 2 (by decide)), if_neg (show ¬ p2 = 3 from hq 3 (by decide)), if_neg (show ¬ p2 = 4 from hq 4 (by decide)), if_neg (show ¬ p2 = 5 from hq 5 (by decide)), if_neg (show ¬ p2 = 6 from hq 6 (by decide)), if_neg (show ¬ p2 = 7 from hq 7 (by decide))]
      exact ⟨_, σ1, σ2, rfl, rfl, ⟨M, M', R, R', S, S', n, c, t, hC⟩⟩
  · unfold fX8_singer fX9_singer
    simp (disch := first | with_reducible assumption | (unfold kd; decide) | (unfold kl; decide) | decide | (apply t_lt; omega)) only [ob, vC, ev_isSinger1 o0_6 hs3, ev_isSinger2 hc2e, ifz0 h]
    exact ⟨_, σ1, σ2, rfl, rfl, ⟨M, M', R, R', S, S', n, c, t, hC⟩⟩
theorem s_task : st_task Cpl := by
  intro σ1 σ2 hC p1 p2
  obtain ⟨M, M', R, R', S, S', n, c, t, hC⟩ := hC
  have hQ := hC
  obtain ⟨hr, hf2, hT, hm, hc2, ht, hst, hcr, hb, hi0, hi1⟩ := hQ
  have hr0 := hr
  have hf20 := hf2
  obtain ⟨hMe, hR, hS, e01, e02, e03, e04, e05, e322, ⟨o0_0, o0_6, o0_7, o0_8, o0_9, o0_10, o0_12, o0_13, o1_0, o32_0, o32_1, o33_0, o98_0, o94_0, o94_1, o84_0, o84_1, o49_0, o49_1, o50_0, o51_0, o50_1, o50_2, o67_0, o68_0, o67_1, o67_2, o3_0, o3_1, o6_0, o6_1, o9_0, o9_1, o9_2, o9_3, o14_0, o14_1, o14_2, o14_3⟩, hrow, hodd⟩ := hr0
  obtain ⟨w1, w2, w4, w6, w7, w8, w10, w12, w21, w22, w24, w25, w26, w27, w28, w29, w30, w31, w33, w34, w36, w37, w38⟩ := hf20
  obtain ⟨kM, kM1, kM1n, kM2, kM2n⟩ := kMel hMe
  obtain ⟨kR, ⟨kR1, kR1n⟩, ⟨kR2, kR2n⟩, ⟨kR3, kR3n⟩, ⟨kR4, kR4n⟩⟩ := kTri hR
  obtain ⟨⟨kS, kSn⟩, kSs⟩ := kRow hS
  obtain ⟨em0, em1⟩ := hr.mel
  obtain ⟨et0, et1, et2, et3⟩ := hr.tri
  have erow := hr.row
  obtain ⟨hn40, hn1, hn2, hnk⟩ := id hm
  obtain ⟨ht6, ht1, ht2, htk⟩ := id ht
  obtain ⟨hc12, hc2e⟩ := id hc2
  obtain ⟨hs3, hsw, hsr, hss, hsg, hse, hse0⟩ := id hst
  by_cases h : 0 ≤ p1 ∧ p1 ≤ nI t - 1
  · obtain ⟨k, hk, rfl⟩ := (inN (by omega)).mp h
    obtain ⟨⟨d1, d2, d3, d4⟩, -⟩ := htk k hk
    unfold fX8_task fX9_task
    simp (disch := first | with_reducible assumption | (unfold kd; decide) | (unfold kl; decide) | decide | (apply t_lt; omega)) only [gR, gI, ob, vC, e01, e02, e03, e04, e05, e322, em0, em1, et0, et1, et2, et3, o0_0, o0_6, o0_7, o0_8, o0_9, o0_10, o0_12, o0_13, o1_0, o32_0, o32_1, o33_0, o98_0, o94_0, o94_1, o84_0, o84_1, o49_0, o49_1, o50_0, o51_0, o50_1, o50_2, o67_0, o68_0, o67_1, o67_2, o3_0, o3_1, o6_0, o6_1, o9_0, o9_1, o9_2, o9_3, o14_0, o14_1, o14_2, o14_3, w1, w2, w4, w6, w7, w8, w10, w12, w21, w22, w24, w25, w26, w27, w28, w29, w30, w31, w33, w34, w36, w37, w38, ev_isTask1 e03 kR ht1, ev_isTask2 ht2, ifz1 h, lA 6, in9 0 3 (L := 0) (H := 3) rfl rfl]
    by_cases h7 : 0 ≤ p2 ∧ p2 ≤ 3
    · obtain ⟨j, hj, rfl⟩ := (inK 3 rfl (by decide)).mp h7
      have e8 : (4 : Int32) * nI k + nI j = nI (4 * k + j) := by rw [mul_nI 4 4 rfl, nI_add]
      simp (disch := first | with_reducible assumption | (unfold kd; decide) | (unfold kl; decide) | decide | (apply t_lt; omega)) only [ifz1 h7, e8, lA 24]
      refine ⟨_, σ1, σ2, ?_, rfl, ⟨M, M', R, R', S, S', n, c, t, hC⟩⟩
      match j, hj with
      | 0, _ => rw [show 4 * k + 0 = 4 * k from rfl, ← d1]; rfl
      | 1, _ => rw [← d2]; rfl
      | 2, _ => rw [← d3]; rfl
      | 3, _ => rw [← d4]; rfl
    · rw [ifz0 h7]
      have hq : ∀ j, j < 4 → ¬ p2 = nI j := fun j hj e => h7 ((inK 3 rfl (by decide)).mpr ⟨j, hj, e⟩)
      rw [if_neg (show ¬ p2 = 0 from hq 0 (by decide)), if_neg (show ¬ p2 = 1 from hq 1 (by decide)), if_neg (show ¬ p2 = 2 from hq 2 (by decide)), if_neg (show ¬ p2 = 3 from hq 3 (by decide))]
      exact ⟨_, σ1, σ2, rfl, rfl, ⟨M, M', R, R', S, S', n, c, t, hC⟩⟩
  · unfold fX8_task fX9_task
    simp (disch := first | with_reducible assumption | (unfold kd; decide) | (unfold kl; decide) | decide | (apply t_lt; omega)) only [gR, gI, ob, vC, ev_isTask1 e03 kR ht1, ev_isTask2 ht2, ifz0 h]
    exact ⟨_, σ1, σ2, rfl, rfl, ⟨M, M', R, R', S, S', n, c, t, hC⟩⟩
theorem s_seed : st_seed Cpl := by
  intro σ1 σ2 hC p1
  obtain ⟨M, M', R, R', S, S', n, c, t, hC⟩ := hC
  have hQ := hC
  obtain ⟨hr, hf2, hT, hm, hc2, ht, hst, hcr, hb, hi0, hi1⟩ := hQ
  have hr0 := hr
  have hf20 := hf2
  obtain ⟨hMe, hR, hS, e01, e02, e03, e04, e05, e322, ⟨o0_0, o0_6, o0_7, o0_8, o0_9, o0_10, o0_12, o0_13, o1_0, o32_0, o32_1, o33_0, o98_0, o94_0, o94_1, o84_0, o84_1, o49_0, o49_1, o50_0, o51_0, o50_1, o50_2, o67_0, o68_0, o67_1, o67_2, o3_0, o3_1, o6_0, o6_1, o9_0, o9_1, o9_2, o9_3, o14_0, o14_1, o14_2, o14_3⟩, hrow, hodd⟩ := hr0
  obtain ⟨w1, w2, w4, w6, w7, w8, w10, w12, w21, w22, w24, w25, w26, w27, w28, w29, w30, w31, w33, w34, w36, w37, w38⟩ := hf20
  obtain ⟨kM, kM1, kM1n, kM2, kM2n⟩ := kMel hMe
  obtain ⟨kR, ⟨kR1, kR1n⟩, ⟨kR2, kR2n⟩, ⟨kR3, kR3n⟩, ⟨kR4, kR4n⟩⟩ := kTri hR
  obtain ⟨⟨kS, kSn⟩, kSs⟩ := kRow hS
  obtain ⟨em0, em1⟩ := hr.mel
  obtain ⟨et0, et1, et2, et3⟩ := hr.tri
  have erow := hr.row
  obtain ⟨hn40, hn1, hn2, hnk⟩ := id hm
  obtain ⟨ht6, ht1, ht2, htk⟩ := id ht
  obtain ⟨hc12, hc2e⟩ := id hc2
  obtain ⟨hs3, hsw, hsr, hss, hsg, hse, hse0⟩ := id hst
  unfold fX8_seed fX9_seed
  by_cases h : 0 ≤ p1
  · simp (disch := first | with_reducible assumption | (unfold kd; decide) | (unfold kl; decide) | decide | (apply t_lt; omega)) only [gR, gI, pI, ob, e01, e02, e03, e04, e05, e322, em0, em1, et0, et1, et2, et3, o0_0, o0_6, o0_7, o0_8, o0_9, o0_10, o0_12, o0_13, o1_0, o32_0, o32_1, o33_0, o98_0, o94_0, o94_1, o84_0, o84_1, o49_0, o49_1, o50_0, o51_0, o50_1, o50_2, o67_0, o68_0, o67_1, o67_2, o3_0, o3_1, o6_0, o6_1, o9_0, o9_1, o9_2, o9_3, o14_0, o14_1, o14_2, o14_3, h, if_true, hse]
    refine ⟨_, _, _, rfl, rfl, M, M', R, R', S, S', n, c, t, hr, hf2, (hT.w1 (by omega)).w2 (by omega), (hm.w1 (by omega)).w2 (by omega), ⟨hc12, by rw [wIk (by omega)]; exact hc2e⟩, (ht.w1 (by omega)).w2 (by omega), ?_, (hcr.w1 (by omega)).w2 (by omega), (hb.w1 (by omega)).w2 (by omega), (hi0.w1 hc12 (by omega)).w2 (by omega), (hi1.w1 hc12 (by omega)).w2 (by omega)⟩
    rw [wIn (by omega), wIn (by omega), wIn (by omega), wIn (by omega), wIk (by omega), wIe]
    refine ⟨by rw [wIk (by omega)]; exact hs3, fun k hk => by rw [wIn (by omega)]; exact hsw k hk, by rw [wIk (by omega), wIk (by omega)]; exact hsr, fun s hs => ⟨fun j hj => by rw [wIn (by omega)]; exact (hss s hs).1 j hj, (hss s hs).2⟩, by rw [wIn (by omega), wIn (by omega)]; exact hsg, wIe, ?_⟩
    rw [Int32.le_iff_toInt_le, Int32.toInt_zero] at h
    exact h
  · simp only [h, if_false]
    exact ⟨_, σ1, σ2, rfl, rfl, ⟨M, M', R, R', S, S', n, c, t, hC⟩⟩
theorem s_part : st_part Cpl := by
  intro σ1 σ2 hC
  obtain ⟨M, M', R, R', S, S', n, c, t, hC⟩ := hC
  have hQ := hC
  obtain ⟨hr, hf2, hT, hm, hc2, ht, hst, hcr, hb, hi0, hi1⟩ := hQ
  have hr0 := hr
  have hf20 := hf2
  obtain ⟨hMe, hR, hS, e01, e02, e03, e04, e05, e322, ⟨o0_0, o0_6, o0_7, o0_8, o0_9, o0_10, o0_12, o0_13, o1_0, o32_0, o32_1, o33_0, o98_0, o94_0, o94_1, o84_0, o84_1, o49_0, o49_1, o50_0, o51_0, o50_1, o50_2, o67_0, o68_0, o67_1, o67_2, o3_0, o3_1, o6_0, o6_1, o9_0, o9_1, o9_2, o9_3, o14_0, o14_1, o14_2, o14_3⟩, hrow, hodd⟩ := hr0
  obtain ⟨w1, w2, w4, w6, w7, w8, w10, w12, w21, w22, w24, w25, w26, w27, w28, w29, w30, w31, w33, w34, w36, w37, w38⟩ := hf20
  obtain ⟨kM, kM1, kM1n, kM2, kM2n⟩ := kMel hMe
  obtain ⟨kR, ⟨kR1, kR1n⟩, ⟨kR2, kR2n⟩, ⟨kR3, kR3n⟩, ⟨kR4, kR4n⟩⟩ := kTri hR
  obtain ⟨⟨kS, kSn⟩, kSs⟩ := kRow hS
  obtain ⟨em0, em1⟩ := hr.mel
  obtain ⟨et0, et1, et2, et3⟩ := hr.tri
  have erow := hr.row
  obtain ⟨hn40, hn1, hn2, hnk⟩ := id hm
  obtain ⟨ht6, ht1, ht2, htk⟩ := id ht
  obtain ⟨hc12, hc2e⟩ := id hc2
  obtain ⟨hs3, hsw, hsr, hss, hsg, hse, hse0⟩ := id hst
  obtain ⟨m, hm8, hm1, hm2, hmk⟩ := id hcr
  unfold fX8_part fX9_part
  simp (disch := first | with_reducible assumption | (unfold kd; decide) | (unfold kl; decide) | decide | (apply t_lt; omega)) only [gR, gI, pI, ob, e01, e02, e03, e04, e05, e322, em0, em1, et0, et1, et2, et3, o0_0, o0_6, o0_7, o0_8, o0_9, o0_10, o0_12, o0_13, o1_0, o32_0, o32_1, o33_0, o98_0, o94_0, o94_1, o84_0, o84_1, o49_0, o49_1, o50_0, o51_0, o50_1, o50_2, o67_0, o68_0, o67_1, o67_2, o3_0, o3_1, o6_0, o6_1, o9_0, o9_1, o9_2, o9_3, o14_0, o14_1, o14_2, o14_3, hm1, hm2]
  refine ⟨_, _, _, rfl, rfl, M, M', R, R', S, S', n, c, t, hr, hf2, (hT.w1 (by omega)).w2 (by omega), (hm.w1 (by omega)).w2 (by omega), ⟨hc12, by rw [wIk (by omega)]; exact hc2e⟩, (ht.w1 (by omega)).w2 (by omega), (hst.w1 hc12 (by omega)).w2 (by omega), ?_, (hb.w1 (by omega)).w2 (by omega), (hi0.w1 hc12 (by omega)).w2 (by omega), (hi1.w1 hc12 (by omega)).w2 (by omega)⟩
  exact ⟨0, by decide, wIe, wIe, fun k hk => absurd hk (Nat.not_lt_zero k)⟩
theorem s_tear : st_tear Cpl := by
  intro σ1 σ2 hC
  obtain ⟨M, M', R, R', S, S', n, c, t, hC⟩ := hC
  have hQ := hC
  obtain ⟨hr, hf2, hT, hm, hc2, ht, hst, hcr, hb, hi0, hi1⟩ := hQ
  have hr0 := hr
  have hf20 := hf2
  obtain ⟨hMe, hR, hS, e01, e02, e03, e04, e05, e322, ⟨o0_0, o0_6, o0_7, o0_8, o0_9, o0_10, o0_12, o0_13, o1_0, o32_0, o32_1, o33_0, o98_0, o94_0, o94_1, o84_0, o84_1, o49_0, o49_1, o50_0, o51_0, o50_1, o50_2, o67_0, o68_0, o67_1, o67_2, o3_0, o3_1, o6_0, o6_1, o9_0, o9_1, o9_2, o9_3, o14_0, o14_1, o14_2, o14_3⟩, hrow, hodd⟩ := hr0
  obtain ⟨w1, w2, w4, w6, w7, w8, w10, w12, w21, w22, w24, w25, w26, w27, w28, w29, w30, w31, w33, w34, w36, w37, w38⟩ := hf20
  obtain ⟨kM, kM1, kM1n, kM2, kM2n⟩ := kMel hMe
  obtain ⟨kR, ⟨kR1, kR1n⟩, ⟨kR2, kR2n⟩, ⟨kR3, kR3n⟩, ⟨kR4, kR4n⟩⟩ := kTri hR
  obtain ⟨⟨kS, kSn⟩, kSs⟩ := kRow hS
  obtain ⟨em0, em1⟩ := hr.mel
  obtain ⟨et0, et1, et2, et3⟩ := hr.tri
  have erow := hr.row
  obtain ⟨hn40, hn1, hn2, hnk⟩ := id hm
  obtain ⟨ht6, ht1, ht2, htk⟩ := id ht
  obtain ⟨hc12, hc2e⟩ := id hc2
  obtain ⟨hs3, hsw, hsr, hss, hsg, hse, hse0⟩ := id hst
  obtain ⟨m, hm8, hm1, hm2, hmk⟩ := id hb
  unfold fX8_tear fX9_tear
  simp (disch := first | with_reducible assumption | (unfold kd; decide) | (unfold kl; decide) | decide | (apply t_lt; omega)) only [gR, gI, pI, ob, e01, e02, e03, e04, e05, e322, em0, em1, et0, et1, et2, et3, o0_0, o0_6, o0_7, o0_8, o0_9, o0_10, o0_12, o0_13, o1_0, o32_0, o32_1, o33_0, o98_0, o94_0, o94_1, o84_0, o84_1, o49_0, o49_1, o50_0, o51_0, o50_1, o50_2, o67_0, o68_0, o67_1, o67_2, o3_0, o3_1, o6_0, o6_1, o9_0, o9_1, o9_2, o9_3, o14_0, o14_1, o14_2, o14_3, hm1, hm2]
  refine ⟨_, _, _, rfl, rfl, M, M', R, R', S, S', n, c, t, hr, hf2, (hT.w1 (by omega)).w2 (by omega), (hm.w1 (by omega)).w2 (by omega), ⟨hc12, by rw [wIk (by omega)]; exact hc2e⟩, (ht.w1 (by omega)).w2 (by omega), (hst.w1 hc12 (by omega)).w2 (by omega), (hcr.w1 (by omega)).w2 (by omega), ?_, (hi0.w1 hc12 (by omega)).w2 (by omega), (hi1.w1 hc12 (by omega)).w2 (by omega)⟩
  exact ⟨0, by decide, wIe, wIe, fun k hk => absurd hk (Nat.not_lt_zero k)⟩
