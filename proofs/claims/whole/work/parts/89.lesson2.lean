theorem s_lesson : st_lesson Cpl := by
  intro σ1 σ2 hC p1 p2
  obtain ⟨M, M', R, R', S, S', n, c, t, hC⟩ := hC
  have hQ := hC
  obtain ⟨hr, hf2, hT, hm, hc2, ht, hst, hcr, hb, hi0, hi1⟩ := hQ
  have hr0 := hr
  have hf20 := hf2
  obtain ⟨hMe, hR, hS, e01, e02, e03, e04, e05, e322, ⟨o0_0, o0_6, o0_7, o0_8, o0_9, o0_10, o0_12, o0_13, o1_0, o32_0, o32_1, o33_0, o98_0, o94_0, o94_1, o84_0, o84_1, o49_0, o49_1, o50_0, o51_0, o50_1, o50_2, o67_0, o68_0, o67_1, o67_2, o3_0, o3_1, o6_0, o6_1, o9_0, o9_1, o9_2, o9_3, o14_0, o14_1, o14_2, o14_3⟩, hrow, hodd⟩ := hr0
  obtain ⟨w1, w2, w4, w6, w7, w8, w10, w12, w21, w22, w24, w25, w26, w27, w28, w29, w30, w31, w33, w34, w36, w37, w38⟩ := hf20
  obtain ⟨kM, kM1, kM1n, kM2, kM2n⟩ := kMel hMe
  obtain ⟨kR, ⟨kR1, kR1n⟩, ⟨kR2, kR2n⟩, ⟨kR3, kR3n⟩, ⟨kR4, kR4n⟩⟩ := kTri hR
  obtain ⟨⟨kS, kSn⟩, kSs⟩ := kRow hS
  obtain ⟨em0, em1⟩ := hr.mel
  obtain ⟨et0, et1, et2, et3⟩ := hr.tri
  have erow := hr.row
  obtain ⟨hn40, hn1, hn2, hnk⟩ := id hm
  obtain ⟨ht6, ht1, ht2, htk⟩ := id ht
  obtain ⟨hc12, hc2e⟩ := id hc2
  obtain ⟨hs3, hsw, hsr, hss, hsg, hse, hse0⟩ := id hst
  unfold fX8_lesson fX9_lesson
  rw [vC1 0 8, ev_isSinger1 o0_6 hs3, ob, vC2, ev_isSinger2 hc2e, ob]
  by_cases h : 0 ≤ p1 ∧ p1 ≤ nI c - 1
  · obtain ⟨s, hs, rfl⟩ := (inN (by omega)).mp h
    rw [ifz1 h, ifz1 h, isW, ob, in9 0 3 (L := 0) (H := 3) rfl rfl, ob]
    by_cases h2 : 0 ≤ p2 ∧ p2 ≤ 3
    · obtain ⟨p, hp, rfl⟩ := (inK 3 rfl (by decide)).mp h2
      have kw := kSs s (by omega)
      obtain ⟨τ1, a1, a2, a3, a4⟩ := ev_learn (σ := σ1) (p := p) kw (by omega)
      obtain ⟨τ2, b1, b2, b3, b4, b5⟩ := ev_teach (σ := σ2) (p := p) w4 (show s < 12 by omega) (by omega) (hss s hs).2
      have hT' := hC.taught (p := p) hs a2 b2 a3 a4 b3 b4 b5
      obtain ⟨hr', hf2', -, hm', hc2', -, hst', -⟩ := id hT'
      obtain ⟨hs3', -, -, hss', -, hse', hse0'⟩ := id hst'
      have lS : ∀ u : hM, u.2.2 = σ1.2.2 → aldr 15 kT1 u S (nI s) = some (S + 1 + s) := fun u hu => by rw [lR 12 kS kSn (by omega) (by decide), hu, erow s (by omega)]
      have hS' : vS τ1 τ2 98 99 15 (S + 1 + s) s n M 3 := ⟨⟨rfl, by rw [a2]; exact o98_0, rfl, rfl⟩, ⟨kw, by omega, by omega, by omega⟩, ⟨rfl, rfl, by omega⟩, ⟨kM, by rw [a2]; exact e01, by rw [a2]; exact em0, by rw [a2]; exact em1, kM1, kM1n, kM2, kM2n, by omega, by omega⟩, ⟨by rw [a2]; exact o0_6, by rw [b2]; exact w1, by rw [b2]; exact w2, by rw [b2]; exact w4⟩, by omega, by omega, hn40, hm'.2.1, hm'.2.2.1, hm'.2.2.2, (hss' s hs).1, (hss' s hs).2⟩
      obtain ⟨r, υ1, υ2, q1, q2, q3, -⟩ := plain_both hS' (by omega) (by rw [a2]; exact o0_12) (by rw [b2]; exact w28) hse' hse0'
      rw [ifz1 h2, ifz1 h2, gR1 0 8, o0_6, ob, gR1 32 5, e322, ob, lS σ1 rfl, ob, vC kw, a1, ob, gR1 0 8, a2, o0_6, ob, gR1 32 5, a2, e322, ob, lS τ1 a2, ob, vC1 0 8, q1, ob, vC2, b1, ob, vC2, q2, ob]
      exact ⟨_, _, _, rfl, rfl, M, M', R, R', S, S', n, c, t, hT'.plain q3⟩
    · rw [ifz0 h2, ifz0 h2]
      exact ⟨_, σ1, σ2, rfl, rfl, ⟨M, M', R, R', S, S', n, c, t, hC⟩⟩
  · rw [ifz0 h, ifz0 h]
    exact ⟨_, σ1, σ2, rfl, rfl, ⟨M, M', R, R', S, S', n, c, t, hC⟩⟩
